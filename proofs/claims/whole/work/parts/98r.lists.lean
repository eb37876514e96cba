/-! ===== entries: a node, how many ways, the first way; merged by node ===== -/
abbrev En : Type := (Nat × Nat) × Nat × List Nat
def mkE (e : En) (t : Nat × Nat × Nat) : En := (t.2, e.2.1, e.2.2 ++ [t.1])
def kidsE (N : Nat) (e : En) : List En := (kidsL N e.1.1 e.1.2).map (mkE e)
def hasK (L : List En) (k : Nat × Nat) : Bool := L.any (fun x => x.1 == k)
def bmp (e x : En) : En := if x.1 = e.1 then (x.1, x.2.1 + e.2.1, x.2.2) else x
def ins (L : List En) (e : En) : List En := if hasK L e.1 then L.map (bmp e) else L ++ [e]
def insA (L S : List En) : List En := S.foldl ins L
def rootE (N : Nat) : En := ((0, pcN (flatP N) N), 1, [])
def Lv (N : Nat) : Nat → List En
  | 0 => [rootE N]
  | d + 1 => insA [] ((Lv N d).flatMap (kidsE N))
def Sq (N : Nat) : Nat → List En
  | 0 => [rootE N]
  | d + 1 => (Sq N d).flatMap (kidsE N)
def wsum (g : Nat × Nat → Nat) : List En → Nat
  | [] => 0
  | e :: t => g e.1 * e.2.1 + wsum g t
/-- the first of which p holds: its node, its way -/
def fst1 (p : Nat × Nat → Bool) : List En → Option ((Nat × Nat) × List Nat)
  | [] => none
  | e :: t => if p e.1 then some (e.1, e.2.2) else fst1 p t
def Eqv (S T : List En) : Prop := (∀ g, wsum g S = wsum g T) ∧ ∀ p, fst1 p S = fst1 p T
theorem Eqv.rf {S : List En} : Eqv S S := ⟨fun _ => rfl, fun _ => rfl⟩
theorem Eqv.tr {S T U : List En} (h : Eqv S T) (h' : Eqv T U) : Eqv S U := ⟨fun g => (h.1 g).trans (h'.1 g), fun p => (h.2 p).trans (h'.2 p)⟩
theorem wsum_app (g : Nat × Nat → Nat) : ∀ S T, wsum g (S ++ T) = wsum g S + wsum g T := by
  intro S
  induction S with
  | nil => intro T; simp [wsum]
  | cons e S ih => intro T; simp only [List.cons_append, wsum, ih]; omega
theorem fst1_app (p : Nat × Nat → Bool) : ∀ S T, fst1 p (S ++ T) = (fst1 p S).or (fst1 p T) := by
  intro S
  induction S with
  | nil => intro T; simp [fst1]
  | cons e S ih =>
    intro T
    simp only [List.cons_append, fst1, ih]
    split <;> simp
/-- sums over children, by parents -/
def ksum (N : Nat) (g : Nat × Nat → Nat) (k : Nat × Nat) : Nat := wsum g ((kidsL N k.1 k.2).map (mkE (k, 1, [])))
theorem wsum_kids (g : Nat × Nat → Nat) (e : En) : ∀ (L : List (Nat × Nat × Nat)), wsum g (L.map (mkE e)) = wsum g (L.map (mkE (e.1, 1, []))) * e.2.1 := by
  intro L
  induction L with
  | nil => simp [wsum]
  | cons t L ih =>
    simp only [List.map_cons, wsum, ih, mkE]
    rw [Nat.add_mul, Nat.mul_one]
theorem wsum_flat (N : Nat) (g : Nat × Nat → Nat) : ∀ S, wsum g (S.flatMap (kidsE N)) = wsum (ksum N g) S := by
  intro S
  induction S with
  | nil => rfl
  | cons e S ih =>
    simp only [List.flatMap_cons, wsum_app, wsum, ih]
    unfold kidsE
    rw [wsum_kids]
    rfl
theorem fst1_kids (p : Nat × Nat → Bool) (e : En) : ∀ (L : List (Nat × Nat × Nat)), fst1 p (L.map (mkE e)) = (fst1 p (L.map (mkE (e.1, 1, [])))).map (fun r => (r.1, e.2.2 ++ r.2)) := by
  intro L
  induction L with
  | nil => rfl
  | cons t L ih =>
    simp only [List.map_cons, fst1, ih, mkE]
    split <;> simp
def kany (N : Nat) (p : Nat × Nat → Bool) (k : Nat × Nat) : Bool := (fst1 p ((kidsL N k.1 k.2).map (mkE (k, 1, [])))).isSome
def kfst (N : Nat) (p : Nat × Nat → Bool) (r : (Nat × Nat) × List Nat) : Option ((Nat × Nat) × List Nat) := (fst1 p ((kidsL N r.1.1 r.1.2).map (mkE (r.1, 1, [])))).map (fun x => (x.1, r.2 ++ x.2))
theorem fst1_flat (N : Nat) (p : Nat × Nat → Bool) : ∀ S, fst1 p (S.flatMap (kidsE N)) = (fst1 (kany N p) S).bind (kfst N p) := by
  intro S
  induction S with
  | nil => rfl
  | cons e S ih =>
    simp only [List.flatMap_cons, fst1_app, fst1, ih]
    unfold kidsE
    rw [fst1_kids]
    unfold kany
    cases hz : fst1 p ((kidsL N e.1.1 e.1.2).map (mkE (e.1, 1, []))) with
    | none => simp
    | some r => simp [kfst, hz]
theorem Eqv.flat {S T : List En} (N : Nat) (h : Eqv S T) : Eqv (S.flatMap (kidsE N)) (T.flatMap (kidsE N)) :=
  ⟨fun g => by rw [wsum_flat, wsum_flat, h.1], fun p => by rw [fst1_flat, fst1_flat, h.2]⟩
/-! merging keeps sums and firsts -/
theorem hasK_iff {L : List En} {k : Nat × Nat} : hasK L k = true ↔ ∃ x, x ∈ L ∧ x.1 = k := by
  unfold hasK
  simp
theorem fst1_bmp (p : Nat × Nat → Bool) (e : En) : ∀ L, fst1 p (L.map (bmp e)) = fst1 p L := by
  intro L
  induction L with
  | nil => rfl
  | cons x L ih =>
    simp only [List.map_cons, fst1, ih, bmp]
    by_cases h : x.1 = e.1
    · rw [if_pos h]
    · rw [if_neg h]
theorem fst1_some {p : Nat × Nat → Bool} : ∀ {L : List En} {x : En}, x ∈ L → p x.1 = true → (fst1 p L).isSome = true := by
  intro L
  induction L with
  | nil => intro x hx _; exact absurd hx (by simp)
  | cons y L ih =>
    intro x hx hp
    simp only [fst1]
    by_cases hy : p y.1 = true
    · simp [hy]
    · rw [if_neg hy]
      rcases List.mem_cons.mp hx with e | e
      · rw [e] at hp; exact absurd hp hy
      · exact ih e hp
def ndK (L : List En) : Prop := (L.map (fun x => x.1)).Nodup
theorem bmp_key (e x : En) : (bmp e x).1 = x.1 := by unfold bmp; split <;> rfl
theorem map_bmp_key (e : En) (L : List En) : (L.map (bmp e)).map (fun x => x.1) = L.map (fun x => x.1) := by
  rw [List.map_map]
  exact List.map_congr_left (fun x _ => bmp_key e x)
theorem wsum_bmp_no (g : Nat × Nat → Nat) (e : En) : ∀ L, (∀ x, x ∈ L → x.1 ≠ e.1) → wsum g (L.map (bmp e)) = wsum g L := by
  intro L
  induction L with
  | nil => intro _; rfl
  | cons x L ih =>
    intro h
    simp only [List.map_cons, wsum]
    rw [ih (fun y hy => h y (by simp [hy]))]
    unfold bmp
    rw [if_neg (h x (by simp))]
theorem wsum_bmp (g : Nat × Nat → Nat) (e : En) : ∀ L, ndK L → (∃ x, x ∈ L ∧ x.1 = e.1) → wsum g (L.map (bmp e)) = wsum g L + g e.1 * e.2.1 := by
  intro L
  induction L with
  | nil => intro _ h; obtain ⟨x, hx, _⟩ := h; exact absurd hx (by simp)
  | cons x L ih =>
    intro hn h
    unfold ndK at hn
    rw [List.map_cons, List.nodup_cons] at hn
    simp only [List.map_cons, wsum]
    by_cases hx : x.1 = e.1
    · rw [wsum_bmp_no g e L (fun y hy z => hn.1 (by rw [hx, ← z]; exact List.mem_map_of_mem hy))]
      unfold bmp
      rw [if_pos hx]
      simp only
      rw [Nat.mul_add, hx]
      omega
    · obtain ⟨y, hy, hk⟩ := h
      have hy' : y ∈ L := by
        rcases List.mem_cons.mp hy with z | z
        · rw [z] at hk; exact absurd hk hx
        · exact z
      rw [ih hn.2 ⟨y, hy', hk⟩]
      unfold bmp
      rw [if_neg hx]
      omega
theorem ins_nd {L : List En} {e : En} (h : ndK L) : ndK (ins L e) := by
  unfold ins
  by_cases hk : hasK L e.1 = true
  · rw [if_pos hk]
    unfold ndK
    rw [map_bmp_key]
    exact h
  · rw [if_neg hk]
    unfold ndK
    rw [List.map_append]
    rw [List.nodup_append]
    refine ⟨h, by simp, fun a ha b hb => ?_⟩
    intro hab
    obtain ⟨x, hx, hxa⟩ := List.mem_map.mp ha
    rw [List.map_singleton, List.mem_singleton] at hb
    exact hk (hasK_iff.mpr ⟨x, hx, by rw [hxa, hab, hb]⟩)
theorem ins_eqv {L S : List En} {e : En} (hn : ndK L) (h : Eqv L S) : Eqv (ins L e) (S ++ [e]) := by
  unfold ins
  by_cases hk : hasK L e.1 = true
  · rw [if_pos hk]
    obtain ⟨x, hx, hxe⟩ := hasK_iff.mp hk
    refine ⟨fun g => ?_, fun p => ?_⟩
    · rw [wsum_bmp g e L hn ⟨x, hx, hxe⟩, wsum_app, h.1]
      simp [wsum]
    · rw [fst1_bmp, fst1_app, h.2]
      by_cases hp : p e.1 = true
      · have := fst1_some hx (by rw [hxe]; exact hp)
        rw [h.2] at this
        cases hz : fst1 p S with
        | none => rw [hz] at this; exact absurd this (by simp)
        | some r => simp
      · simp only [fst1]
        rw [if_neg hp]
        simp
  · rw [if_neg hk]
    exact ⟨fun g => by rw [wsum_app, wsum_app, h.1], fun p => by rw [fst1_app, fst1_app, h.2]⟩
theorem insA_eqv : ∀ (T L S : List En), ndK L → Eqv L S → ndK (insA L T) ∧ Eqv (insA L T) (S ++ T) := by
  intro T
  induction T with
  | nil => intro L S hn h; exact ⟨hn, by simpa [insA] using h⟩
  | cons e T ih =>
    intro L S hn h
    have := ih (ins L e) (S ++ [e]) (ins_nd hn) (ins_eqv hn h)
    rw [show S ++ e :: T = S ++ [e] ++ T by simp]
    exact this
theorem Lv_nd (N : Nat) : ∀ d, ndK (Lv N d) := by
  intro d
  cases d with
  | zero => simp [Lv, ndK]
  | succ d => exact (insA_eqv _ [] [] (by simp [ndK]) Eqv.rf).1
/-- the merged levels tell what all rows tell -/
theorem Lv_Sq (N : Nat) : ∀ d, Eqv (Lv N d) (Sq N d) := by
  intro d
  induction d with
  | zero => exact Eqv.rf
  | succ d ih =>
    have := (insA_eqv ((Lv N d).flatMap (kidsE N)) [] [] (by simp [ndK]) Eqv.rf).2
    simp only [List.nil_append] at this
    exact Eqv.tr this (ih.flat N)
