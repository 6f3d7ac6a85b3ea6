/-! ===== the flood, as a thing of thought ===== -/
def sp1_ (W H : Int) (h : Int → Int) (i d : Int) (s : (Int → Int) × List Int) : (Int → Int) × List Int :=
  if nb_ W H i d ≠ -1 ∧ s.1 (nb_ W H i d) = -6 then (fun j => if j = nb_ W H i d then max (h (nb_ W H i d)) (s.1 i) else s.1 j, s.2 ++ [nb_ W H i d]) else s
def spn_ (W H : Int) (h : Int → Int) (i : Int) : Nat → (Int → Int) × List Int → (Int → Int) × List Int
  | 0, s => s
  | n + 1, s => sp1_ W H h i n (spn_ W H h i n s)
def mk_ (W H : Int) (h m : Int → Int) : Nat → (Int → Int) × List Int → (Int → Int) × List Int
  | 0, s => s
  | n + 1, s => if 0 < m n then spn_ W H h n 4 (mk_ W H h m n s) else mk_ W H h m n s
def bst_ (lv : Int → Int) : List Int → Int
  | [] => -1
  | x :: q => if bst_ lv q ≠ -1 ∧ lv (bst_ lv q) < lv x then bst_ lv q else x
def ob_ (W H : Int) (ow : Int → Int) (i d : Int) : Int := if nb_ W H i d ≠ -1 ∧ 0 < ow (nb_ W H i d) then ow (nb_ W H i d) else -6
def sb_1 (b o : Int) : Int := if 0 < o then (if b = -6 ∨ b = o then o else 0) else b
def ar_n (W H : Int) (ow : Int → Int) (i : Int) : Nat → Int
  | 0 => -6
  | n + 1 => sb_1 (ar_n W H ow i n) (ob_ W H ow i n)
abbrev ar_ (W H : Int) (ow : Int → Int) (i : Int) : Int := ar_n W H ow i 4
abbrev FS_ : Type := (Int → Int) × (Int → Int) × (Int → Int) × List Int
def st_ (W H : Int) (h : Int → Int) (t k : Int) (S : FS_) : FS_ :=
  let ow' := fun j => if j = k then ar_ W H S.1 k else S.1 j
  let s' := if 0 < ar_ W H S.1 k then spn_ W H h k 4 (S.2.1, S.2.2.2.filter (fun x => decide (x ≠ k))) else (S.2.1, S.2.2.2.filter (fun x => decide (x ≠ k)))
  (ow', s'.1, fun j => if j = k then t else S.2.2.1 j, s'.2)
def run_ (W H : Int) (h : Int → Int) : Nat → Int → FS_ → FS_
  | 0, _, S => S
  | n + 1, t, S => if bst_ S.2.1 S.2.2.2 = -1 then S else run_ W H h n (t + 1) (st_ W H h t (bst_ S.2.1 S.2.2.2) S)
def s0_ (W H : Int) (h m : Int → Int) : FS_ :=
  let s := mk_ W H h m (W * H).toNat (fun j => if 0 < m j then h j else -6, [])
  (fun j => if 0 < m j then m j else -6, s.1, fun j => if 0 < m j then 0 else -6, s.2)
def fs_ (W H : Int) (h m : Int → Int) : FS_ := run_ W H h (W * H).toNat 1 (s0_ W H h m)
theorem bst_nil {lv : Int → Int} {q : List Int} (hq : ∀ x ∈ q, 0 ≤ x) : bst_ lv q = -1 ↔ q = [] := by
  cases q with
  | nil => exact ⟨fun _ => rfl, fun _ => rfl⟩
  | cons x q =>
    refine ⟨fun h => ?_, fun h => by cases h⟩
    unfold bst_ at h
    split at h
    · rename_i c; exact absurd h c.1
    · have := hq x List.mem_cons_self; omega
theorem bst_mem {lv : Int → Int} {q : List Int} (h : bst_ lv q ≠ -1) : bst_ lv q ∈ q := by
  induction q with
  | nil => exact absurd rfl h
  | cons x q ih =>
    unfold bst_ at h ⊢
    split
    · rename_i c; exact List.mem_cons_of_mem _ (ih c.1)
    · exact List.mem_cons_self
theorem bst_head {lv : Int → Int} {v k : Int} {l : List Int} : ∀ {q : List Int}, (∀ x ∈ q, 0 ≤ x ∧ v ≤ lv x) → q.filter (fun x => decide (lv x = v)) = k :: l → bst_ lv q = k := by
  intro q
  induction q generalizing k l with
  | nil => intro _ h; cases h
  | cons x q ih =>
    intro hq h
    have hq' : ∀ x ∈ q, 0 ≤ x ∧ v ≤ lv x := fun y hy => hq y (List.mem_cons_of_mem _ hy)
    have hx := hq x List.mem_cons_self
    unfold bst_
    by_cases e : lv x = v
    · rw [List.filter_cons_of_pos (by simpa using e)] at h
      cases h
      rw [if_neg]
      rintro ⟨c1, c2⟩
      have := (hq' _ (bst_mem c1)).2
      omega
    · rw [List.filter_cons_of_neg (by simpa using e)] at h
      have hk := ih hq' h
      have hm : k ∈ q.filter (fun x => decide (lv x = v)) := by rw [h]; exact List.mem_cons_self
      rw [List.mem_filter] at hm
      have hkv : lv k = v := by simpa using hm.2
      have := (hq' k hm.1).1
      rw [hk, if_pos ⟨by omega, by omega⟩]
/-! chains of dots -/
def ch_ (nx : Int → Int) : List Int → Int → Prop
  | [], a => a = -1
  | x :: l, a => a = x ∧ ch_ nx l (nx x)
theorem ch_cong {nx nx' : Int → Int} : ∀ {l : List Int} {a : Int}, (∀ x ∈ l, nx' x = nx x) → ch_ nx l a → ch_ nx' l a := by
  intro l
  induction l with
  | nil => intro a _ h; exact h
  | cons x l ih =>
    intro a hx h
    exact ⟨h.1, by rw [hx x List.mem_cons_self]; exact ih (fun y hy => hx y (List.mem_cons_of_mem _ hy)) h.2⟩
theorem ch_nil {nx : Int → Int} {l : List Int} {a : Int} (hl : ∀ x ∈ l, 0 ≤ x) (h : ch_ nx l a) : a = -1 ↔ l = [] := by
  cases l with
  | nil => exact ⟨fun _ => rfl, fun _ => h⟩
  | cons x l =>
    refine ⟨fun q => ?_, fun q => by cases q⟩
    have := hl x List.mem_cons_self
    have := h.1
    omega
theorem ch_app {nx : Int → Int} {k z : Int} : ∀ {l : List Int} {a : Int}, l.Nodup → k ∉ l → l.getLast? = some z → ch_ nx l a → ch_ (fun j => if j = z then k else if j = k then -1 else nx j) (l ++ [k]) a := by
  intro l
  induction l with
  | nil => intro a _ _ h; cases h
  | cons x l ih =>
    intro a hn hk hz h
    obtain ⟨hx, hn'⟩ := List.nodup_cons.mp hn
    have hkx : k ≠ x := fun e => hk (by rw [e]; exact List.mem_cons_self)
    have hk' : k ∉ l := fun q => hk (List.mem_cons_of_mem _ q)
    cases l with
    | nil =>
      have : x = z := by simpa using hz
      subst this
      refine ⟨h.1, ?_⟩
      show _ = _ ∧ _ = _
      dsimp only
      rw [if_pos rfl]
      exact ⟨rfl, by rw [if_neg hkx, if_pos rfl]⟩
    | cons y l =>
      have hz' : (y :: l).getLast? = some z := by rw [List.getLast?_cons_cons] at hz; exact hz
      have hzm : z ∈ y :: l := List.mem_of_getLast? hz'
      have hxz : x ≠ z := fun e => hx (by rw [e]; exact hzm)
      refine ⟨h.1, ?_⟩
      have := ih hn' hk' hz' h.2
      dsimp only
      rw [if_neg hxz, if_neg (fun e => hkx e.symm)]
      exact this
