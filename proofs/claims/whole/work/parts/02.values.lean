/-! the values of the questions, over the component's text tx (its index is the place), lengths L, pattern pt -/
def fi_b (b : Bool) : Int32 := match b with
  | true => 1
  | false => 0
theorem fi_b_t : ¬ fi_b true = 0 := by decide
theorem fi_b_f : fi_b false = 0 := rfl
theorem fi_pt {post : Int32 → Prop} {b : Bool} (h : post (fi_b b)) (e : b = true) : post 1 := by subst e; exact h
theorem fi_pf {post : Int32 → Prop} {b : Bool} (h : post (fi_b b)) (e : b = false) : post 0 := by subst e; exact h
theorem fi_br {b : Bool} {A B : Prop} (f : b = false → A) (g : b = true → B) : (fi_b b = 0 → A) ∧ (¬ fi_b b = 0 → B) := by
  cases b
  · exact br_t rfl (f rfl)
  · exact br_f fi_b_t (g rfl)
theorem fi_10 : ¬ (1 : Int32) = 0 := by decide
theorem fi_640 : ¬ (64 : Int32) = 0 := by decide
def fi_rl (L : Nat → Nat) (q : Nat) : Nat := L (q / 64) - q % 64
theorem fi_rl_dp {L : Nat → Nat} {d p : Nat} (hp : p < 64) : fi_rl L (64 * d + p) = L d - p := by
  unfold fi_rl
  rw [fi_dv hp, fi_md hp]
/-- how far two rests agree -/
def fi_sp (tx : Nat → Int32) (a b q r : Nat) : Nat → Nat → Nat
  | 0, k => k
  | n + 1, k => if k < a ∧ k < b ∧ tx (q + k) = tx (r + k) then fi_sp tx a b q r n (k + 1) else k
theorem fi_sp_stop {tx : Nat → Int32} {a b q r n k : Nat} (h : ¬ (k < a ∧ k < b ∧ tx (q + k) = tx (r + k))) : fi_sp tx a b q r n k = k := by
  cases n
  · rfl
  · simp only [fi_sp, if_neg h]
theorem fi_sp_go {tx : Nat → Int32} {a b q r n k : Nat} (h : k < a ∧ k < b ∧ tx (q + k) = tx (r + k)) : fi_sp tx a b q r (n + 1) k = fi_sp tx a b q r n (k + 1) := by
  simp only [fi_sp, if_pos h]
theorem fi_sp_le {tx : Nat → Int32} {a b q r : Nat} : ∀ n k, k ≤ a → k ≤ b → fi_sp tx a b q r n k ≤ a ∧ fi_sp tx a b q r n k ≤ b := by
  intro n
  induction n with
  | zero => intro k h1 h2; exact ⟨h1, h2⟩
  | succ n ih =>
    intro k h1 h2
    by_cases h : k < a ∧ k < b ∧ tx (q + k) = tx (r + k)
    · rw [fi_sp_go h]; exact ih (k + 1) (by omega) (by omega)
    · rw [fi_sp_stop h]; exact ⟨h1, h2⟩
theorem fi_sp_sym {tx : Nat → Int32} {a b q r : Nat} : ∀ n k, fi_sp tx a b q r n k = fi_sp tx b a r q n k := by
  intro n
  induction n with
  | zero => intro k; rfl
  | succ n ih =>
    intro k
    by_cases h : k < a ∧ k < b ∧ tx (q + k) = tx (r + k)
    · rw [fi_sp_go h, fi_sp_go ⟨h.2.1, h.1, h.2.2.symm⟩]; exact ih (k + 1)
    · rw [fi_sp_stop h, fi_sp_stop (fun z => h ⟨z.2.1, z.1, z.2.2.symm⟩)]
def fi_sh (tx : Nat → Int32) (L : Nat → Nat) (q r : Nat) : Nat := fi_sp tx (fi_rl L q) (fi_rl L r) q r 60 0
theorem fi_sh_le (tx : Nat → Int32) (L : Nat → Nat) (q r : Nat) : fi_sh tx L q r ≤ fi_rl L q ∧ fi_sh tx L q r ≤ fi_rl L r := fi_sp_le 60 0 (Nat.zero_le _) (Nat.zero_le _)
theorem fi_sh_sym (tx : Nat → Int32) (L : Nat → Nat) (q r : Nat) : fi_sh tx L q r = fi_sh tx L r q := fi_sp_sym 60 0
/-- whether one rest comes before another: s symbols in common, a and b their lengths -/
def fi_bs (tx : Nat → Int32) (s a b q r : Nat) : Bool :=
  if s < a ∧ s < b then decide (¬ tx (r + s) ≤ tx (q + s)) else if a = b then decide (q < r) else decide (a < b)
theorem fi_bs_l {tx : Nat → Int32} {s a b q r : Nat} (h : s < a ∧ s < b) : fi_bs tx s a b q r = decide (¬ tx (r + s) ≤ tx (q + s)) := if_pos h
theorem fi_bs_e {tx : Nat → Int32} {s a b q r : Nat} (h : ¬ (s < a ∧ s < b)) (e : a = b) : fi_bs tx s a b q r = decide (q < r) := by
  unfold fi_bs
  rw [if_neg h, if_pos e]
theorem fi_bs_n {tx : Nat → Int32} {s a b q r : Nat} (h : ¬ (s < a ∧ s < b)) (e : ¬ a = b) : fi_bs tx s a b q r = decide (a < b) := by
  unfold fi_bs
  rw [if_neg h, if_neg e]
def fi_bf (tx : Nat → Int32) (L : Nat → Nat) (q r : Nat) : Bool := fi_bs tx (fi_sh tx L q r) (fi_rl L q) (fi_rl L r) q r
/-- whether the rest at q begins with the pattern's symbols a .. b - 1 -/
def fi_oa (tx pt : Nat → Int32) : Nat → Nat → Nat → Bool
  | 0, _, _ => true
  | n + 1, q, k => if tx q = pt k then fi_oa tx pt n (q + 1) (k + 1) else false
theorem fi_oa_t {tx pt : Nat → Int32} {n q k : Nat} (h : tx q = pt k) : fi_oa tx pt (n + 1) q k = fi_oa tx pt n (q + 1) (k + 1) := by
  simp only [fi_oa, if_pos h]
theorem fi_oa_f {tx pt : Nat → Int32} {n q k : Nat} (h : ¬ tx q = pt k) : fi_oa tx pt (n + 1) q k = false := by
  simp only [fi_oa, if_neg h]
def fi_oc (tx pt : Nat → Int32) (L : Nat → Nat) (a b q : Nat) : Bool := if b - a ≤ fi_rl L q then fi_oa tx pt (b - a) q a else false
theorem fi_oc_t {tx pt : Nat → Int32} {L : Nat → Nat} {a b q : Nat} (h : b - a ≤ fi_rl L q) : fi_oc tx pt L a b q = fi_oa tx pt (b - a) q a := if_pos h
theorem fi_oc_f {tx pt : Nat → Int32} {L : Nat → Nat} {a b q : Nat} (h : ¬ b - a ≤ fi_rl L q) : fi_oc tx pt L a b q = false := if_neg h
def fi_rk (tx : Nat → Int32) (D : Nat) (L : Nat → Nat) (r : Nat) : Int32 := fi_fo (fi_ok D L) (fun q s => .inr (match fi_bf tx L q r with | true => s + 1 | false => s)) (fun s => s) 320 0 0
def fi_ra (tx : Nat → Int32) (D : Nat) (L : Nat → Nat) (i : Int32) : Int32 := fi_fo (fi_ok D L) (fun q s => if fi_rk tx D L q = i then .inl (nI q) else .inr s) (fun _ => -1) 320 0 0
def fi_oi (tx pt : Nat → Int32) (D P : Nat) (L : Nat → Nat) (i : Int32) : Int32 := fi_fo (fi_ok D L) (fun q s => match fi_oc tx pt L 0 P q with | true => (if s = i then .inl (nI q) else .inr (s + 1)) | false => .inr s) (fun _ => -2) 320 0 0
def fi_po (tx pt : Nat → Int32) (D : Nat) (L : Nat → Nat) (a b : Nat) : Int32 := fi_fo (fi_ok D L) (fun q s => match fi_oc tx pt L a b q with | true => .inl 1 | false => .inr s) (fun _ => 0) 320 0 0
def fi_ld (tx pt : Nat → Int32) (D P : Nat) (L : Nat → Nat) (c : Int32) : Int32 := fi_fo (fi_ok D L) (fun q s => if tx q = c then (match fi_oc tx pt L 0 P (q + 1) with | true => .inl 1 | false => .inr s) else .inr s) (fun _ => 0) 320 0 0
def fi_mx (s x : Int32) : Int32 := if x ≤ s then s else x
theorem fi_mx_l {s x : Int32} (h : x ≤ s) : fi_mx s x = s := if_pos h
theorem fi_mx_g {s x : Int32} (h : ¬ x ≤ s) : fi_mx s x = x := if_neg h
def fi_se (tx : Nat → Int32) (L : Nat → Nat) (Q : Nat) : Int32 := fi_fo (fi_ok (Q / 64 + 1) L) (fun q s => if q < Q then .inr (fi_mx s (nI (fi_sh tx L q Q))) else .inr s) (fun s => s) 320 0 0
def fi_re (tx : Nat → Int32) (D : Nat) (L : Nat → Nat) : Int32 := fi_fo (fi_ok D L) (fun q s => .inr (fi_mx s (fi_se tx L q))) (fun s => s) 320 0 0
def fi_di (tx : Nat → Int32) (D : Nat) (L : Nat → Nat) : Int32 := fi_fo (fi_ok D L) (fun q s => .inr (s + (nI (fi_rl L q) - fi_se tx L q))) (fun s => s) 320 0 0
/-- at how many of the n positions from p on -/
def fi_ci (tx pt : Nat → Int32) (P : Nat) (L : Nat → Nat) (d : Nat) : Nat → Nat → Int32 → Int32
  | 0, _, s => s
  | n + 1, p, s => match fi_oc tx pt L 0 P (64 * d + p) with
    | true => fi_ci tx pt P L d n (p + 1) (s + 1)
    | false => fi_ci tx pt P L d n (p + 1) s
theorem fi_ci_t {tx pt : Nat → Int32} {P : Nat} {L : Nat → Nat} {d n p : Nat} {s : Int32} (h : fi_oc tx pt L 0 P (64 * d + p) = true) : fi_ci tx pt P L d (n + 1) p s = fi_ci tx pt P L d n (p + 1) (s + 1) := by
  simp only [fi_ci, h]
theorem fi_ci_f {tx pt : Nat → Int32} {P : Nat} {L : Nat → Nat} {d n p : Nat} {s : Int32} (h : fi_oc tx pt L 0 P (64 * d + p) = false) : fi_ci tx pt P L d (n + 1) p s = fi_ci tx pt P L d n (p + 1) s := by
  simp only [fi_ci, h]
def fi_cd (tx pt : Nat → Int32) (P : Nat) (L : Nat → Nat) (d : Nat) : Int32 := fi_ci tx pt P L d (L d) 0 0
/-- a sum, and a count, over the documents -/
def fi_cs (c : Nat → Int32) : Nat → Nat → Int32 → Int32
  | 0, _, s => s
  | n + 1, d, s => fi_cs c n (d + 1) (s + c d)
def fi_cp (c : Nat → Int32) : Nat → Nat → Int32 → Int32
  | 0, _, s => s
  | n + 1, d, s => fi_cp c n (d + 1) (if c d ≤ 0 then s else s + 1)
def fi_cz (c : Nat → Int32) : Nat → Nat → Int32 → Int32
  | 0, _, s => s
  | n + 1, d, s => fi_cz c n (d + 1) (if c d = 0 then s else s + 1)
/-- the greatest k, from n down, that c allows -/
def fi_lg (c : Nat → Int32) : Nat → Int32
  | 0 => 0
  | k + 1 => if c (k + 1) = 0 then fi_lg c k else nI (k + 1)

/-! the relation -/
def fi_up (L : Nat → Nat) (k x : Nat) : Nat → Nat := fun j => if j = k then x else L j
theorem fi_up_s {L : Nat → Nat} {k x : Nat} : fi_up L k x k = x := if_pos rfl
theorem fi_up_n {L : Nat → Nat} {k x j : Nat} (h : j ≠ k) : fi_up L k x j = L j := if_neg h
def fi_A (L : Nat → Nat) : Nat → Int32 := fun i => nI (L i)
theorem fi_Ac {L : Nat → Nat} {d : Nat} (h : d < 2 ^ 31) : fi_A L (nI d).toNatClampNeg = nI (L d) := by
  rw [nI_clamp h]
  rfl
theorem fi_A_up {L : Nat → Nat} {k x : Nat} : upd (fi_A L) k (nI x) = fi_A (fi_up L k x) := by
  funext j
  unfold fi_A upd fi_up
  by_cases h : j = k
  · rw [if_pos h, if_pos h]
  · rw [if_neg h, if_neg h]
def fi_inv (D T P : Nat) (L : Nat → Nat) (tx ty : Nat → Int32) : Prop :=
  (1 ≤ D ∧ D ≤ 5) ∧ (L 0 + L 1 + L 2 + L 3 + L 4 = T ∧ T ≤ 60) ∧ P ≤ 8 ∧ (∀ d, D ≤ d → L d = 0) ∧ (∀ d p, d < 5 → p < L d → ty (60 * d + p) = tx (64 * d + p))
theorem fi_5 {d : Nat} (h : d < 5) : d = 0 ∨ d = 1 ∨ d = 2 ∨ d = 3 ∨ d = 4 := by omega
theorem fi_LT {D T P : Nat} {L : Nat → Nat} {tx ty : Nat → Int32} (h : fi_inv D T P L tx ty) (d : Nat) : L d ≤ T := by
  obtain ⟨⟨h1, h2⟩, ⟨h3, h4⟩, h5, h6, h7⟩ := h
  by_cases hd : d < 5
  · rcases fi_5 hd with e | e | e | e | e <;> subst e <;> omega
  · rw [h6 d (by omega)]; omega
theorem fi_L60 {D T P : Nat} {L : Nat → Nat} {tx ty : Nat → Int32} (h : fi_inv D T P L tx ty) (d : Nat) : L d ≤ 60 := Nat.le_trans (fi_LT h d) h.2.1.2
theorem fi_tx {D T P : Nat} {L : Nat → Nat} {tx ty : Nat → Int32} (h : fi_inv D T P L tx ty) {d p : Nat} (hp : p < L d) : ty (60 * d + p) = tx (64 * d + p) := by
  have h7 := h.2.2.2.2
  have h6 := h.2.2.2.1
  have h2 := h.1.2
  by_cases hd : d < 5
  · exact h7 d p hd hp
  · rw [h6 d (by omega)] at hp; omega
theorem fi_sum {L : Nat → Nat} {k x T : Nat} (hk : k < 5) (h : L 0 + L 1 + L 2 + L 3 + L 4 = T) : fi_up L k x 0 + fi_up L k x 1 + fi_up L k x 2 + fi_up L k x 3 + fi_up L k x 4 + L k = T + x := by
  rcases fi_5 hk with e | e | e | e | e <;> subst e <;> simp [fi_up] <;> omega
/-- one symbol put at the end of the last document, on both sides -/
theorem fi_app {E T P : Nat} {L : Nat → Nat} {tx ty : Nat → Int32} (h : fi_inv (E + 1) T P L tx ty) (hT : T < 60) (c : Int32) : fi_inv (E + 1) (T + 1) P (fi_up L E (L E + 1)) (upd tx (64 * E + L E) c) (upd ty (60 * E + L E) c) := by
  have hLE := fi_LT h E
  have hL := fun d => fi_LT h d
  have htx := fun d p hp => fi_tx h (d := d) (p := p) hp
  obtain ⟨⟨h1, h2⟩, ⟨h3, h4⟩, h5, h6, h7⟩ := h
  have hs := fi_sum (L := L) (k := E) (x := L E + 1) (by omega) h3
  refine ⟨⟨h1, h2⟩, ⟨by omega, by omega⟩, h5, fun d hd => ?_, fun d p hd hp => ?_⟩
  · rw [fi_up_n (by omega)]; exact h6 d hd
  · by_cases e : d = E
    · subst e
      rw [fi_up_s] at hp
      by_cases e2 : p = L d
      · subst e2; rw [pk_us, pk_us]
      · rw [pk_un (by omega), pk_un (by omega)]; exact htx d p (by omega)
    · rw [fi_up_n e] at hp
      have := hL d
      rw [pk_un (by omega), pk_un (by omega)]; exact htx d p hp
/-- the last document's length set to x, not above what it was -/
theorem fi_cutL {E T P x : Nat} {L : Nat → Nat} {tx ty : Nat → Int32} (h : fi_inv (E + 1) T P L tx ty) (hx : x ≤ L E) : fi_inv (E + 1) (T - L E + x) P (fi_up L E x) tx ty := by
  have hLE := fi_LT h E
  have htx := fun d p hp => fi_tx h (d := d) (p := p) hp
  obtain ⟨⟨h1, h2⟩, ⟨h3, h4⟩, h5, h6, h7⟩ := h
  have hs := fi_sum (L := L) (k := E) (x := x) (by omega) h3
  refine ⟨⟨h1, h2⟩, ⟨by omega, by omega⟩, h5, fun d hd => ?_, fun d p hd hp => ?_⟩
  · rw [fi_up_n (by omega)]; exact h6 d hd
  · by_cases e : d = E
    · subst e
      rw [fi_up_s] at hp
      exact htx d p (by omega)
    · rw [fi_up_n e] at hp
      exact htx d p hp
