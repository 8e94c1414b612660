variable {M : MI} {d mc ms pos pc a b c cells slots : Nat} {v : Int} {tl : List Nat} {stk : List AV} {loc : Lo} {X : HS} {K : Int → HS → Prop}
def tyL : List (Nat → FieldType) := [ty0, ty1, ty2, ty3, ty4, ty5, ty6, ty7, ty8, ty9, ty10, ty11, ty12]
def tyOf (a : Nat) : Nat → FieldType := tyL.getD a ty0
theorem cls_ty : ∀ a, a < 13 → ∀ k, k < (clsOf a).2.2 → parseFieldDescriptor ((clsOf a).2.1 k).2.2.1 = some (tyOf a k) := by
  intro a ha
  match a, ha with
  | 0, _ => exact tyok0
  | 1, _ => exact tyok1
  | 2, _ => exact tyok2
  | 3, _ => exact tyok3
  | 4, _ => exact tyok4
  | 5, _ => exact tyok5
  | 6, _ => exact tyok6
  | 7, _ => exact tyok7
  | 8, _ => exact tyok8
  | 9, _ => exact tyok9
  | 10, _ => exact tyok10
  | 11, _ => exact tyok11
  | 12, _ => exact tyok12
  | k + 13, h => omega
theorem cls_nm : ∀ a, a < 13 → ∀ i, i < (clsOf a).2.2 → ∀ j, j < (clsOf a).2.2 → i ≠ j → ((clsOf a).2.1 i).2.1 ≠ ((clsOf a).2.1 j).2.1 := by
  intro a ha
  match a, ha with
  | 0, _ => exact nm0
  | 1, _ => exact nm1
  | 2, _ => exact nm2
  | 3, _ => exact nm3
  | 4, _ => exact nm4
  | 5, _ => exact nm5
  | 6, _ => exact nm6
  | 7, _ => exact nm7
  | 8, _ => exact nm8
  | 9, _ => exact nm9
  | 10, _ => exact nm10
  | 11, _ => exact nm11
  | 12, _ => exact nm12
  | k + 13, h => omega
theorem cls_at : ∀ a, a < 13 → cls[a]? = some ((clsOf a).1, (clsOf a).2.1, (clsOf a).2.2) := by
  intro a ha
  have h : a < cls.length := ha
  unfold clsOf
  rw [List.getD_eq_getElem?_getD, List.getElem?_eq_getElem h]
  rfl
/-- the shapes: of an object its fields' number -/
theorem shp_ok : ∀ k, k < NC → (shp k).1 < 100 → (shp k).1 < 13 ∧ (shp k).2 = (clsOf (shp k).1).2.2 := by
  have h : (List.range NC).all (fun k => decide ((shp k).1 < 100 → (shp k).1 < 13 ∧ (shp k).2 = (clsOf (shp k).1).2.2)) = true := by decide +kernel
  intro k hk
  exact of_decide_eq_true (List.all_eq_true.mp h k (List.mem_range.mpr hk))
def kdT (t : FieldType) (k : Nat) : Bool := match t with
  | .int => k == 0
  | .long => k == 1
  | .boolean => k == 4
  | .object _ => k == 2 || k == 3
  | .array _ => k == 2 || k == 3
  | _ => false
theorem fk_ok : ∀ a, a < 13 → ∀ j, j < (clsOf a).2.2 → kdT (tyOf a j) (fk a j) = true := by
  have h : (List.range 13).all (fun a => (List.range (clsOf a).2.2).all fun j => kdT (tyOf a j) (fk a j)) = true := by decide +kernel
  intro a ha j hj
  exact List.all_eq_true.mp (List.all_eq_true.mp h a (List.mem_range.mpr ha)) j (List.mem_range.mpr hj)
/-- a reference to a cell of a kind -/
theorem ref_of {r : Int} {a : Nat} (h : sK r = a) (ha : a < 900) : ∃ k : Nat, r = (k : Int) ∧ (shp k).1 = a := by
  match r, h with
  | .ofNat k, h => exact ⟨k, rfl, h⟩
  | .negSucc n, h => simp [sK] at h; omega
theorem shp_out {k : Nat} (h : NC ≤ k) : shp k = (999, 0) := by
  unfold shp
  have : Nat.blt k NC = false := by
    cases q : Nat.blt k NC with
    | false => rfl
    | true => exact absurd (Nat.le_of_ble_eq_true q) (by omega)
  rw [this]
  rfl
theorem shp_lt {k a : Nat} (h : (shp k).1 = a) (ha : a < 900) : k < NC := by
  by_cases q : k < NC
  · exact q
  · rw [shp_out (by omega)] at h
    dsimp only at h
    omega
def gfv (X : HS) (a b : Nat) (r : Int) : AV := if fk a b = 1 then (1, X.2.2 r b) else if fk a b = 2 then (2, X.1 r b) else if fk a b = 3 then (2, X.2.2 r b) else (0, X.2.2 r b)
theorem gfv_emb (g : Gx) (X : HS) (a b k : Nat) : emb g (gfv X a b k) = fldV g X.1 X.2.2 k a b := by
  unfold gfv fldV
  repeat' split
  all_goals rfl
theorem cellE_obj {g : Gx} {π : Int → Int → Int} {σ : Mem} {k a : Nat} (h : (shp k).1 = a) (ha : a < 100) : cellE g π σ k = .inr (a, (List.range (shp k).2).map (fldV g π σ k a)) := by
  subst h
  unfold cellE
  rw [if_pos ha]
theorem aw_getf {r : Int} (hM : chkM M = true) (hi : (mT M)[pos]? = some (22, pc, a, b, c, v, tl)) (hr : sK r = a) (ha : a < 100) (hn : r < X.2.1) (k : AW M d mc ms (pos + 1) (gfv X a b r :: stk) loc X cells slots K) : AW M d mc ms pos ((2, r) :: stk) loc X cells slots K := by
  intro g p l e s m args below meth c0 Fz H locs ls hF hK hS hB hR hD hs hl hst hlo hc1 hc2
  have hdec := chk_dec hM hi
  have hfal := chk_fall hM hi
  have hpo := chk_pool hM hi
  rw [pcOf_at hi]
  simp [poolO] at hpo
  obtain ⟨hb, hlk⟩ := hpo
  have hst2 := List.forall_mem_cons.mp hst
  obtain ⟨q, rfl, hq⟩ := ref_of hr (by omega)
  have hqn : q < X.2.1 := by omega
  have hNC := shp_lt hq (by omega)
  obtain ⟨h13, hsz⟩ := shp_ok q hNC (by omega)
  rw [hq] at h13 hsz
  have hrg : rgv (gfv X a b q) := by
    have h := hD.2.2.1.1 q b hNC
    unfold kdAt at h
    rw [hq, if_pos ha] at h
    unfold gfv
    unfold rgk at h
    have hkd := fk_ok a h13 b hb
    repeat' split
    all_goals simp_all [rgv]
    rcases (by revert hkd; unfold kdT; split <;> simp_all : fk a b = 0 ∨ fk a b = 4) with z | z
    · rw [z] at h; simpa using h
    · rw [z] at h; simp at h; unfold r32; omega
  have k := k g p l e s m args below meth c0 Fz H locs ls hF hK hS hB hR hD hs hl (List.forall_mem_cons.mpr ⟨hrg, hst2.2⟩) hlo hc1 hc2
  rw [fall1 hfal (by simp)] at k
  have hws := wsL_get (g := g) hqn
  rw [cellE_obj hq ha] at hws
  refine va_get (D := gD g) (cl := cls) (tys := tysL g) (ws := wsL g X) (N := (clsOf a).2.2) (T := (clsOf a).2.1) (C := (clsOf a).1) (ci := a) (Ts := W0) hF.1 hF.2.1 hF.2.2.2.2.1 (cls_in a h13) hF.2.2.2.1 hK.1 hD.2.1 q hws (cls_at a h13) b hb (hF.2.2.2.2.1 _ (FL_ok _ (List.mem_of_getElem? hlk))) (fun _ h9 => h9) (v := emb g (gfv X a b q)) ?_ hdec k
  rw [gfv_emb, List.getElem?_map, List.getElem?_range (by rw [hsz]; exact hb)]
  rfl
