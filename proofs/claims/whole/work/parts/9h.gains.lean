-- ===== gains: the first list by which one gains
def FRs (Q : List Nat → Prop) (val : List Nat → Int) : List (List Nat) → Int → Prop
  | [], r => r = -2
  | L :: l, r => (Q L ∧ r = val L) ∨ (¬ Q L ∧ FRs Q val l r)
theorem FRs_u {Q : List Nat → Prop} {val : List Nat → Int} : ∀ (l : List (List Nat)) (r r' : Int), FRs Q val l r → FRs Q val l r' → r = r'
  | [], r, r', h, h' => by
    have h : r = -2 := h
    have h' : r' = -2 := h'
    omega
  | L :: l, r, r', h, h' => by
    rcases h with ⟨a, b⟩ | ⟨a, b⟩ <;> rcases h' with ⟨a', b'⟩ | ⟨a', b'⟩
    · rw [b, b']
    · exact absurd a a'
    · exact absurd a' a
    · exact FRs_u l r r' b b'
theorem FRs_no {Q : List Nat → Prop} {val : List Nat → Int} : ∀ (l : List (List Nat)), (∀ L, L ∈ l → ¬ Q L) → FRs Q val l (-2)
  | [], _ => rfl
  | L :: l, h => Or.inr ⟨h L (by simp), FRs_no l (fun M hM => h M (by simp [hM]))⟩
theorem FRs_T {Q : List Nat → Prop} {val : List Nat → Int} : ∀ (a b : List (List Nat)) (r : Int), FRs Q val a r → ¬ r = -2 → FRs Q val (a ++ b) r
  | [], _, _, h, n => absurd h n
  | L :: a, b, r, h, n => by
    rcases h with z | ⟨z, y⟩
    · exact Or.inl z
    · exact Or.inr ⟨z, FRs_T a b r y n⟩
theorem FRs_F {Q : List Nat → Prop} {val : List Nat → Int} (hv : ∀ L, ¬ val L = -2) : ∀ (a b : List (List Nat)) (r : Int), FRs Q val a (-2) → FRs Q val b r → FRs Q val (a ++ b) r
  | [], _, _, _, h => h
  | L :: a, b, r, h, h2 => by
    rcases h with ⟨_, z⟩ | ⟨z, y⟩
    · exact absurd z.symm (hv L)
    · exact Or.inr ⟨z, FRs_F hv a b r y h2⟩
/-- digits, each one more -/
def valL (L : List Nat) : Int := nbr (fun i => oL L i + 1) L.length 0 0
theorem oL_0 {L : List Nat} {i : Int} : 0 ≤ oL L i := Int.natCast_nonneg _
theorem valL_0 (L : List Nat) : ¬ valL L = -2 := by
  have := nbr_0 (f := fun i => oL L i + 1) L.length 0 0 (Int.le_refl 0) (fun j _ _ => by have := oL_0 (L := L) (i := j); omega)
  unfold valL
  omega
theorem oL_app {L : List Nat} {d : Nat} {i : Int} (i0 : 0 ≤ i) (i1 : i < L.length) : oL (L ++ [d]) i = oL L i := by
  unfold oL
  rw [List.getD_eq_getElem?_getD, List.getD_eq_getElem?_getD, List.getElem?_append_left (by omega)]
theorem oL_top {L : List Nat} {d : Nat} {i : Int} (h : i = L.length) : oL (L ++ [d]) i = d := by
  unfold oL
  rw [List.getD_eq_getElem?_getD, h, Int.toNat_natCast, List.getElem?_append_right (Nat.le_refl _), Nat.sub_self]
  rfl
theorem nbr_snoc {f : Int → Int} : ∀ (m : Nat) (i a : Int), nbr f (m + 1) i a = nbr f m i a * 10 + f (i + m)
  | 0, i, a => by
    show a * 10 + f i = a * 10 + f (i + ((0 : Nat) : Int))
    rw [show i + ((0 : Nat) : Int) = i by omega]
  | m + 1, i, a => by
    show nbr f (m + 1) (i + 1) (a * 10 + f i) = nbr f m (i + 1) (a * 10 + f i) * 10 + f (i + ((m + 1 : Nat) : Int))
    rw [nbr_snoc m, show i + 1 + (m : Int) = i + ((m + 1 : Nat) : Int) by omega]
theorem valL_snoc {L : List Nat} {d : Nat} : valL (L ++ [d]) = valL L * 10 + (d + 1) := by
  unfold valL
  rw [List.length_append, List.length_singleton, nbr_snoc, oL_top (by omega), nbr_congr (f' := fun i => oL L i + 1) L.length 0 0 (fun j a b => by
    show oL (L ++ [d]) j + 1 = oL L j + 1
    rw [oL_app a (by omega)])]
/-- the lines of what isn't taken yet, in their order -/
def pmS (z : Nat) : Nat → (Nat → Bool) → List (List Nat)
  | 0, _ => [[]]
  | f + 1, seen => ((List.range z).filter (fun d => !seen d)).flatMap fun d => (pmS z f (fun x => seen x || x == d)).map fun r => d :: r
theorem pmS_e (z : Nat) : ∀ (f : Nat) (seen : Nat → Bool), pmL f ((List.range z).filter (fun d => !seen d)) = pmS z f seen
  | 0, _ => rfl
  | f + 1, seen => by
    show ((List.range z).filter (fun d => !seen d)).flatMap (fun d => (pmL f (((List.range z).filter (fun d => !seen d)).erase d)).map fun r => d :: r) = ((List.range z).filter (fun d => !seen d)).flatMap fun d => (pmS z f (fun x => seen x || x == d)).map fun r => d :: r
    congr 1
    funext d
    have hn : ((List.range z).filter (fun d => !seen d)).Nodup := List.Nodup.sublist List.filter_sublist List.nodup_range
    rw [hn.erase_eq_filter, List.filter_filter, ← pmS_e z f]
    congr 3
    funext x
    cases seen x <;> simp [bne]
theorem pmN_S (z : Nat) : pmN z = pmS z z (fun _ => false) := by
  rw [← pmS_e]
  unfold pmN
  congr 1
  exact (List.filter_eq_self.mpr (fun _ _ => rfl)).symm
/-- from one of them on -/
def pmT (z f : Nat) (seen : Nat → Bool) (q x : Nat) : List (List Nat) := ((List.range' x q).filter (fun d => !seen d)).flatMap fun d => (pmS z f (fun x => seen x || x == d)).map fun r => d :: r
theorem pmT_s {z f : Nat} {seen : Nat → Bool} {q x : Nat} : pmT z f seen (q + 1) x = if seen x = true then pmT z f seen q (x + 1) else (pmS z f (fun y => seen y || y == x)).map (fun r => x :: r) ++ pmT z f seen q (x + 1) := by
  unfold pmT
  rw [List.range'_succ, List.filter_cons]
  cases seen x <;> simp
theorem M_triesAll_ok {σ : Mem} {g p w : Int} {z : Nat} (hI : I_giv σ) (hW : I_ways σ) (g0 : 0 ≤ g) (gb : g < σ 356 0) (p0 : 0 ≤ p) (p1 : p < σ 357 g) (w0 : 0 ≤ w) (w1 : w < σ 356 10) (hk : σ 366 w = 1 ∨ σ 366 w = 3) (ez : csz σ g p = z) (z5 : z ≤ 5) :
    ∀ (f : Nat) {d : Nat} {K : Int → Mem → Prop} (s : Mem) (pre : List Nat) (seen : Nat → Bool) (mk : Int), pre.length + f = z → (∀ i, 0 ≤ i → i < (pre.length : Int) → (oL pre i < z ∧ seen (oL pre i).toNat = true) ∧ (∀ j, 0 ≤ j → j < (pre.length : Int) → oL pre j = oL pre i → j = i) ∧ s 401 i = oL pre i + 1) → (0 ≤ mk ∧ mk < 65536) → (∀ u : Int, 0 ≤ u → u < z → bt mk (u + 1) = seen u.toNat) → SE σ s → (∀ t, 0 ≤ t → t < σ 358 g → FQ s 399 400 t (shN σ g (σ 366 w) (8 * p + t)) (shB σ g (σ 366 w))) →
      (∀ r s2, FRs (fun L => lyV σ g p (σ 366 w) (oL L) 1) valL ((pmS z f seen).map fun r => pre ++ r) r → (∀ b j, ¬ mE b j → s2 b j = s b j) → (∀ b j, 399 ≤ b → b ≤ 400 → s2 b j = s b j) → (∀ i, 0 ≤ i → i < (pre.length : Int) → s2 401 i = s 401 i) → K r s2) → AM2 i_M_triesAll (d + f + 6) [(2, 356), (0, g), (0, p), (0, w), (0, (pre.length : Int)), (0, mk), (0, valL pre)] s K := by
  obtain ⟨hA, hB, hC⟩ := hI.2.2.2 g g0 gb
  have h5 := hI.2.2.1
  have hn := hA.1
  have e362 : ∀ s : Mem, SE σ s → s 362 (7 * g + p) = z := fun s hs => by
    rw [SE_A hs g0 (by omega) (Or.inl (by unfold fA; omega)), ← ez]
    exact (csz_e p0 (by omega)).symm
  have hval : ∀ L : List Nat, L.length ≤ 6 → (∀ i, 0 ≤ i → i < (L.length : Int) → oL L i < 5) → 0 ≤ valL L ∧ valL L ≤ 999999 := by
    intro L hL hd
    have main : ∀ m : Nat, m ≤ L.length → 0 ≤ nbr (fun i => oL L i + 1) m 0 0 ∧ nbr (fun i => oL L i + 1) m 0 0 < ((10 ^ m : Nat) : Int) := by
      intro m
      induction m with
      | zero => intro _; exact ⟨Int.le_refl 0, by show (0 : Int) < ((10 ^ 0 : Nat) : Int); decide⟩
      | succ m ih =>
        intro hm
        have h1 := ih (by omega)
        have h2 := hd (0 + (m : Int)) (by omega) (by omega)
        have h3 := oL_0 (L := L) (i := 0 + (m : Int))
        rw [nbr_snoc, Nat.pow_succ]
        generalize nbr (fun i => oL L i + 1) m 0 0 = a at *
        generalize 10 ^ m = b at *
        have : ((b * 10 : Nat) : Int) = b * 10 := by omega
        omega
    have h := main L.length (Nat.le_refl _)
    have h6 : (10 : Nat) ^ L.length ≤ 10 ^ 6 := Nat.pow_le_pow_right (by decide) hL
    have e6 : (10 : Nat) ^ 6 = 1000000 := by decide
    rw [e6] at h6
    unfold valL
    omega
  intro f
  induction f with
  | zero =>
    intro d K s pre seen mk hl hp hm hb hse hown kk
    refine e_M_triesAll fun _ _ _ _ _ _ => ?_
    rw [w32_id (x := 7 * g) (by omega) (by omega), w32_id (x := 7 * g + p) (by omega) (by omega), e362 s hse]
    refine inb_i (by omega) (by omega) (brT_i (by omega) ?_)
    refine M_tries_ok (d := d) (σ := σ) (o := oL pre) hI hW g0 gb p0 p1 w0 w1 hk (fun i i0 i1 => ?_) hse (fun i i0 i1 => (hp i i0 (by omega)).2.2) hown (fun r s2 hV f2 f3 => ?_)
    · have := hp i i0 (by omega)
      exact ⟨⟨oL_0, by omega⟩, fun j j0 j1 e => this.2.1 j j0 (by omega) e⟩
    · have e1 : ((pmS z 0 seen).map fun r => pre ++ r) = [pre] := by
        show [pre ++ []] = [pre]
        rw [List.append_nil]
      rw [e1] at kk
      have h4 : ¬ r = -4 := by
        unfold lyV CmpR at hV
        omega
      refine ⟨fun c => ?_, fun c => ⟨fun c2 => absurd c2 h4, fun _ => ?_⟩⟩
      · rw [c] at hV
        exact kk _ s2 (Or.inl ⟨hV, rfl⟩) f2 (fun b j a1 a2 => f3 b j a1 (by omega)) (fun i _ _ => f3 401 i (by decide) (by decide))
      · exact kk _ s2 (Or.inr ⟨fun hV1 => c (lyV_u hV hV1), rfl⟩) f2 (fun b j a1 a2 => f3 b j a1 (by omega)) (fun i _ _ => f3 401 i (by decide) (by decide))
  | succ f ih =>
    intro d K s pre seen mk hl hp hm hb hse hown kk
    have loop : ∀ (q : Nat) (x : Nat) (s1 : Mem), x + q = z → (∀ b j, ¬ mE b j → s1 b j = s b j) → (∀ b j, 399 ≤ b → b ≤ 400 → s1 b j = s b j) → (∀ i, 0 ≤ i → i < (pre.length : Int) → s1 401 i = s 401 i) → (∀ r, FRs (fun L => lyV σ g p (σ 366 w) (oL L) 1) valL ((pmT z f seen q x).map fun r => pre ++ r) r → FRs (fun L => lyV σ g p (σ 366 w) (oL L) 1) valL ((pmS z (f + 1) seen).map fun r => pre ++ r) r) → AW2 i_M_triesAll (d + (f + 1) + 6) 32 [] [(0, (2, 356)), (1, (0, g)), (2, (0, p)), (3, (0, w)), (4, (0, (pre.length : Int))), (5, (0, mk)), (6, (0, valL pre)), (7, (0, (z : Int))), (8, (0, (x : Int) + 1))] s1 K := by
      intro q
      induction q with
      | zero =>
        intro x s1 hx f1 f2 f3 hr
        exact s_M_triesAll_32 (brT_i (by omega) (kk _ s1 (hr _ rfl) f1 f2 f3))
      | succ q ihq =>
        intro x s1 hx f1 f2 f3 hr
        have hvp := hval pre (by omega) (fun i i0 i1 => by have := (hp i i0 i1).1.1; omega)
        have hbx := hb x (by omega) (by omega)
        rw [Int.toNat_natCast] at hbx
        refine s_M_triesAll_32 (brF_i (by omega) ?_)
        rw [bit_e hm.1 (by omega) (by omega) (by omega), hbx]
        rw [pmT_s] at hr
        cases hs : seen x with
        | true =>
          rw [hs, if_pos rfl] at hr
          rw [if_pos rfl, w32_id (x := (x : Int) + 1 + 1) (by omega) (by omega), show (x : Int) + 1 + 1 = ((x + 1 : Nat) : Int) + 1 by omega]
          exact brF_i (by decide) (ihq (x + 1) s1 (by omega) f1 f2 f3 hr)
        | false =>
          rw [hs, if_neg (by decide), List.map_append, List.map_map] at hr
          rw [if_neg (by decide), w32_id (x := (pre.length : Int) + 1) (by omega) (by omega), w32_id (x := 10 * valL pre) (by omega) (by omega), w32_id (x := 10 * valL pre + ((x : Int) + 1)) (by omega) (by omega), w32_id (x := (x : Int) + 1 + 1) (by omega) (by omega)]
          have ho := bit_or (b := mk) (t := (x : Int) + 1) hm.1 hm.2 (by omega) (by omega)
          have ev : 10 * valL pre + ((x : Int) + 1) = valL (pre ++ [x]) := by rw [valL_snoc]; omega
          have el : (pre.length : Int) + 1 = ((pre ++ [x]).length : Int) := by rw [List.length_append, List.length_singleton]; omega
          have hle : (pre ++ [x]).length = pre.length + 1 := by rw [List.length_append, List.length_singleton]
          refine brT_i rfl (inb_i (by omega) (by omega) ?_)
          rw [ev, el]
          have ed : d + (f + 1) + 5 = d + f + 6 := by omega
          show AM2 i_M_triesAll (d + (f + 1) + 5) _ _ _
          rw [ed]
          have em : ((pmS z f (fun y => seen y || y == x)).map fun r => (pre ++ [x]) ++ r) = ((pmS z f (fun y => seen y || y == x)).map ((fun r => pre ++ r) ∘ fun r => x :: r)) := by
            congr 1
            funext r
            show (pre ++ [x]) ++ r = pre ++ (x :: r)
            rw [List.append_assoc]; rfl
          refine ih (d := d) _ (pre ++ [x]) (fun y => seen y || y == x) _ (by omega) (fun i i0 i1 => ?_) ho.1 (fun u u0 u1 => ?_) (SE_t hse (fun b j y => by rw [st_ne (by unfold sE at y; omega)]; exact f1 b j (fun m => y (mE_s m)))) (fun t t0 t1 => ?_) (fun r s2 hR h1 h2 h3 => ?_)
          · by_cases y : i = pre.length
            · have et := oL_top (d := x) y
              refine ⟨⟨by rw [et]; omega, by rw [et, Int.toNat_natCast]; simp⟩, fun j j0 j1 e => ?_, by rw [et, y, st_self]⟩
              by_cases y2 : j = pre.length
              · omega
              · have hj := hp j j0 (by omega)
                rw [et, oL_app j0 (by omega)] at e
                rw [e, Int.toNat_natCast, hs] at hj
                exact absurd hj.1.2 (by decide)
            · have hi := hp i i0 (by omega)
              have ei := oL_app (L := pre) (d := x) i0 (show i < pre.length by omega)
              rw [ei]
              refine ⟨⟨hi.1.1, by rw [hi.1.2]; rfl⟩, fun j j0 j1 e => ?_, by rw [st_ne (by omega), f3 i i0 (by omega)]; exact hi.2.2⟩
              by_cases y2 : j = pre.length
              · rw [oL_top (d := x) y2] at e
                have := hi.1.2
                rw [← e, Int.toNat_natCast, hs] at this
                cases this
              · rw [oL_app j0 (by omega)] at e
                exact hi.2.1 j j0 (by omega) e
          · rw [ho.2 (u + 1) (by omega), hb u u0 u1]
            show (seen u.toNat || decide (u + 1 = (x : Int) + 1)) = (seen u.toNat || u.toNat == x)
            congr 1
            by_cases y : u = x
            · rw [y, Int.toNat_natCast]; simp
            · rw [decide_eq_false (by omega)]
              symm
              rw [beq_eq_false_iff_ne]
              intro y2
              omega
          · have := hown t t0 t1
            unfold FQ at this ⊢
            rw [st_ne (by omega), st_ne (by omega), f2 _ _ (by omega) (by omega), f2 _ _ (by omega) (by omega)]
            exact this
          · have g1 : ∀ b j, ¬ mE b j → s2 b j = s b j := fun b j y => by rw [h1 b j y, st_ne (by unfold mE at y; omega)]; exact f1 b j y
            have g2 : ∀ b j, 399 ≤ b → b ≤ 400 → s2 b j = s b j := fun b j a1 a2 => by rw [h2 b j a1 a2, st_ne (by omega)]; exact f2 b j a1 a2
            have g3 : ∀ i, 0 ≤ i → i < (pre.length : Int) → s2 401 i = s 401 i := fun i i0 i1 => by rw [h3 i i0 (by omega), st_ne (by omega)]; exact f3 i i0 i1
            rw [em] at hR
            refine ⟨fun c => ?_, fun c => ?_⟩
            · rw [c] at hR
              rw [show (x : Int) + 1 + 1 = ((x + 1 : Nat) : Int) + 1 by omega]
              exact ihq (x + 1) s2 (by omega) g1 g2 g3 (fun r2 hr2 => hr r2 (FRs_F valL_0 _ _ _ hR hr2))
            · exact kk _ s2 (hr r (FRs_T _ _ _ hR c)) g1 g2 g3
    refine e_M_triesAll fun _ _ _ _ _ _ => ?_
    rw [w32_id (x := 7 * g) (by omega) (by omega), w32_id (x := 7 * g + p) (by omega) (by omega), e362 s hse]
    refine inb_i (by omega) (by omega) (brF_i (by omega) ?_)
    refine loop z 0 s (by omega) (fun _ _ _ => rfl) (fun _ _ _ _ => rfl) (fun _ _ _ => rfl) (fun r hr => ?_)
    have e0 : pmT z f seen z 0 = pmS z (f + 1) seen := by
      unfold pmT
      rw [← List.range_eq_range']; rfl
    rw [e0] at hr
    exact hr
