/-! news: what it costs to come from a room to another -/
def byy (hr : Nat → Nat → Bool) (wt t : Nat → Nat) (v u : Nat) : Nat := if hr v u = true ∧ t u < 10000 then t u + wt u else 10000
def nww (hr : Nat → Nat → Bool) (wt t : Nat → Nat) (v n : Nat) : Nat := itr (fun u b => min b (byy hr wt t v u)) n 0 (t v)
theorem nww_s (hr : Nat → Nat → Bool) (wt t : Nat → Nat) (v n : Nat) : nww hr wt t v (n + 1) = min (nww hr wt t v n) (byy hr wt t v n) := by
  show itr _ (n + 1) 0 _ = _
  rw [itr_s, Nat.zero_add]
  rfl
theorem nww_t (hr : Nat → Nat → Bool) (wt t : Nat → Nat) (v : Nat) : ∀ n, nww hr wt t v n ≤ t v
  | 0 => Nat.le_refl _
  | n + 1 => by
    have := nww_t hr wt t v n
    rw [nww_s]
    omega
theorem nww_b (hr : Nat → Nat → Bool) (wt t : Nat → Nat) (v : Nat) {u : Nat} : ∀ n, u < n → nww hr wt t v n ≤ byy hr wt t v u
  | 0, h => absurd h (Nat.not_lt_zero u)
  | n + 1, h => by
    rw [nww_s]
    by_cases e : u = n
    · subst e; omega
    · have := nww_b hr wt t v (u := u) n (by omega)
      omega
theorem nww_c (hr : Nat → Nat → Bool) (wt t : Nat → Nat) (v : Nat) : ∀ n, nww hr wt t v n = t v ∨ ∃ u, u < n ∧ nww hr wt t v n = byy hr wt t v u
  | 0 => Or.inl rfl
  | n + 1 => by
    rw [nww_s]
    by_cases e : nww hr wt t v n ≤ byy hr wt t v n
    · rw [Nat.min_eq_left e]
      rcases nww_c hr wt t v n with h | ⟨u, h1, h2⟩
      · exact Or.inl h
      · exact Or.inr ⟨u, by omega, h2⟩
    · rw [Nat.min_eq_right (by omega)]
      exact Or.inr ⟨n, by omega, rfl⟩
/-- rooms that cost less -/
def rk (t : Nat → Nat) (x : Nat) : Nat := sumn (fun w => if t w < x then 1 else 0) 6
theorem sumn_mono {f g : Nat → Nat} : ∀ {n : Nat}, (∀ w, w < n → f w ≤ g w) → sumn f n ≤ sumn g n
  | 0, _ => Nat.le_refl _
  | n + 1, h => by
    have h1 := sumn_mono (f := f) (g := g) (n := n) (fun w hw => h w (by omega))
    have h2 := h n (by omega)
    rw [sumn_s, sumn_s]
    omega
theorem sumn_slt {f g : Nat → Nat} {u : Nat} : ∀ {n : Nat}, (∀ w, w < n → f w ≤ g w) → u < n → f u < g u → sumn f n < sumn g n
  | 0, _, hu, _ => absurd hu (Nat.not_lt_zero u)
  | n + 1, h, hu, hl => by
    rw [sumn_s, sumn_s]
    by_cases e : u = n
    · have h1 := sumn_mono (f := f) (g := g) (n := n) (fun w hw => h w (by omega))
      subst e; omega
    · have h1 := sumn_slt (f := f) (g := g) (u := u) (n := n) (fun w hw => h w (by omega)) (by omega) hl
      have h2 := h n (by omega)
      omega
theorem rk_5 {t : Nat → Nat} {v : Nat} (hv : v < 6) : rk t (t v) ≤ 5 := by
  have h : rk t (t v) < sumn (fun _ => 1) 6 := sumn_slt (u := v) (fun w _ => by split <;> omega) hv (by show (if t v < t v then 1 else 0) < 1; rw [if_neg (by omega)]; omega)
  have e : sumn (fun _ => 1) 6 = 6 := rfl
  omega
/-- the cost by at most so many steps -/
def bel (hr : Nat → Nat → Bool) (wt : Nat → Nat) (g : Nat) : Nat → Nat → Nat
  | 0, v => if v = g then 0 else 10000
  | n + 1, v => nww hr wt (bel hr wt g n) v 6
theorem bel_d (hr : Nat → Nat → Bool) (wt : Nat → Nat) (g : Nat) {a b : Nat} (h : a ≤ b) (v : Nat) : bel hr wt g b v ≤ bel hr wt g a v := by
  induction h with
  | refl => exact Nat.le_refl _
  | step _ ih => exact Nat.le_trans (nww_t hr wt (bel hr wt g _) v 6) ih
def KI (hr : Nat → Nat → Bool) (wt : Nat → Nat) (g : Nat) (t : Nat → Nat) : Prop := t g = 0 ∧ ∀ v, v < 6 → t v = 10000 ∨ (t v < 10000 ∧ t v % 100 ≤ rk t (t v) ∧ t v / 100 ≤ t v % 100 ∧ bel hr wt g (t v % 100) v ≤ t v ∧ (v ≠ g → ∃ u, u < 6 ∧ hr v u = true ∧ t u < 10000 ∧ t u + wt u ≤ t v))
theorem KI_v {hr : Nat → Nat → Bool} {wt : Nat → Nat} {g : Nat} {t : Nat → Nat} (h : KI hr wt g t) {v : Nat} (hv : v < 6) : t v = 10000 ∨ (t v % 100 ≤ 5 ∧ t v / 100 ≤ 5) := by
  rcases h.2 v hv with e | ⟨_, h1, h2, _⟩
  · exact Or.inl e
  · have := rk_5 (t := t) hv
    exact Or.inr (by omega)
theorem KI_s {hr : Nat → Nat → Bool} {wt : Nat → Nat} {g : Nat} (hw : ∀ u, wt u = 1 ∨ wt u = 101) {t : Nat → Nat} (h : KI hr wt g t) {v : Nat} (hv : v < 6) : KI hr wt g (vup t v (nww hr wt t v 6)) := by
  by_cases hx : nww hr wt t v 6 = t v
  · have e : vup t v (nww hr wt t v 6) = t := by
      funext w
      by_cases e : w = v
      · rw [e, vup_e, hx]
      · rw [vup_n _ _ e]
    rw [e]
    exact h
  · have hlt : nww hr wt t v 6 < t v := by have := nww_t hr wt t v 6; omega
    rcases nww_c hr wt t v 6 with e | ⟨u, hu, e⟩
    · exact absurd e hx
    · have hvb : t v ≤ 10000 := (h.2 v hv).elim (fun z => Nat.le_of_eq z) (fun z => Nat.le_of_lt z.1)
      have hby : hr v u = true ∧ t u < 10000 := by
        refine Decidable.byContradiction (fun z => ?_)
        have : byy hr wt t v u = 10000 := if_neg z
        omega
      have e2 : nww hr wt t v 6 = t u + wt u := by rw [e]; exact if_pos hby
      have hwu := hw u
      have huv : u ≠ v := fun z => by subst z; omega
      have hgv : v ≠ g := fun z => by have := h.1; subst z; omega
      obtain ⟨u1, u2, u3, u4, -⟩ := (h.2 u hu).resolve_left (by omega)
      have hr5 := rk_5 (t := t) hu
      have tv : ∀ w, w ≠ v → vup t v (nww hr wt t v 6) w = t w := fun w hw => vup_n _ _ hw
      have tvv : vup t v (nww hr wt t v 6) v = nww hr wt t v 6 := vup_e _ _ _
      have tle : ∀ w, vup t v (nww hr wt t v 6) w ≤ t w := fun w => by
        by_cases ew : w = v
        · rw [ew, tvv]; omega
        · rw [tv w ew]; omega
      refine ⟨by rw [tv g (by omega)]; exact h.1, fun w hw6 => ?_⟩
      by_cases ew : w = v
      · subst ew
        rw [tvv]
        refine Or.inr ⟨by omega, ?_, by omega, ?_, fun _ => ⟨u, hu, hby.1, by rw [tv u huv]; exact hby.2, by rw [tv u huv]; omega⟩⟩
        · have hr1 : (nww hr wt t w 6) % 100 = t u % 100 + 1 := by omega
          have hk : rk t (t u) < rk (vup t w (nww hr wt t w 6)) (nww hr wt t w 6) := by
            refine sumn_slt (u := u) (fun y hy => ?_) hu ?_
            · have hy2 := tle y
              split
              · rw [if_pos (by omega)]; omega
              · omega
            · show (if t u < t u then 1 else 0) < (if vup t w (nww hr wt t w 6) u < nww hr wt t w 6 then 1 else 0)
              rw [if_neg (by omega), tv u huv, if_pos (by omega)]
              omega
          omega
        · have hr1 : (nww hr wt t w 6) % 100 = t u % 100 + 1 := by omega
          rw [hr1]
          have h1 : bel hr wt g (t u % 100 + 1) w ≤ byy hr wt (bel hr wt g (t u % 100)) w u := nww_b hr wt (bel hr wt g (t u % 100)) w 6 hu
          have h2 : byy hr wt (bel hr wt g (t u % 100)) w u = bel hr wt g (t u % 100) u + wt u := if_pos ⟨hby.1, by omega⟩
          omega
      · rw [tv w ew]
        rcases h.2 w hw6 with z | ⟨z1, z2, z3, z4, z5⟩
        · exact Or.inl z
        · refine Or.inr ⟨z1, ?_, z3, z4, fun hwg => ?_⟩
          · have : rk t (t w) ≤ rk (vup t v (nww hr wt t v 6)) (t w) := sumn_mono (fun y hy => by
              have := tle y
              split
              · rw [if_pos (by omega)]; omega
              · omega)
            omega
          · obtain ⟨y, y1, y2, y3, y4⟩ := z5 hwg
            have := tle y
            exact ⟨y, y1, y2, by omega, by omega⟩
def t00 (g v : Nat) : Nat := if v = g then 0 else 10000
theorem KI_0 (hr : Nat → Nat → Bool) (wt : Nat → Nat) (g : Nat) : KI hr wt g (t00 g) := by
  refine ⟨if_pos rfl, fun v hv => ?_⟩
  by_cases e : v = g
  · have e0 : t00 g v = 0 := if_pos e
    rw [e0]
    exact Or.inr ⟨by omega, by omega, by omega, by rw [show bel hr wt g (0 % 100) v = (if v = g then 0 else 10000) from rfl, if_pos e]; omega, fun z => absurd e z⟩
  · exact Or.inl (if_neg e)
def rnd (hr : Nat → Nat → Bool) (wt t : Nat → Nat) (n : Nat) : Nat → Nat := itr (fun v t => vup t v (nww hr wt t v 6)) n 0 t
theorem rnd_s (hr : Nat → Nat → Bool) (wt t : Nat → Nat) (n : Nat) : rnd hr wt t (n + 1) = vup (rnd hr wt t n) n (nww hr wt (rnd hr wt t n) n 6) := by
  show itr _ (n + 1) 0 _ = _
  rw [itr_s, Nat.zero_add]
  rfl
def tkk (hr : Nat → Nat → Bool) (wt : Nat → Nat) (g k : Nat) : Nat → Nat := itr (fun _ t => rnd hr wt t 6) k 0 (t00 g)
theorem tkk_s (hr : Nat → Nat → Bool) (wt : Nat → Nat) (g k : Nat) : tkk hr wt g (k + 1) = rnd hr wt (tkk hr wt g k) 6 := by
  show itr _ (k + 1) 0 _ = _
  rw [itr_s]
  rfl
theorem KI_r {hr : Nat → Nat → Bool} {wt : Nat → Nat} {g : Nat} (hw : ∀ u, wt u = 1 ∨ wt u = 101) {t : Nat → Nat} (h : KI hr wt g t) : ∀ n, n ≤ 6 → KI hr wt g (rnd hr wt t n)
  | 0, _ => h
  | n + 1, hn => by
    rw [rnd_s]
    exact KI_s hw (KI_r hw h n (by omega)) (by omega)
theorem KI_k {hr : Nat → Nat → Bool} {wt : Nat → Nat} {g : Nat} (hw : ∀ u, wt u = 1 ∨ wt u = 101) : ∀ k, KI hr wt g (tkk hr wt g k)
  | 0 => KI_0 hr wt g
  | k + 1 => by
    rw [tkk_s]
    exact KI_r hw (KI_k hw k) 6 (by omega)
theorem byy_m {hr : Nat → Nat → Bool} {wt : Nat → Nat} {g : Nat} (hw : ∀ u, wt u = 1 ∨ wt u = 101) {t t' : Nat → Nat} (h : KI hr wt g t) {v u : Nat} (hu : u < 6) (hl : t u ≤ t' u) : byy hr wt t v u ≤ byy hr wt t' v u := by
  have h1 := KI_v h hu
  have h2 := hw u
  unfold byy
  split
  · rename_i e
    split
    · omega
    · omega
  · rename_i e
    rw [if_neg (fun z => e ⟨z.1, by omega⟩)]
    omega
theorem nww_m {hr : Nat → Nat → Bool} {wt : Nat → Nat} {g : Nat} (hw : ∀ u, wt u = 1 ∨ wt u = 101) {t t' : Nat → Nat} (h : KI hr wt g t) (hl : ∀ u, u < 6 → t u ≤ t' u) {v : Nat} (hv : v < 6) : ∀ n, n ≤ 6 → nww hr wt t v n ≤ nww hr wt t' v n
  | 0, _ => hl v hv
  | n + 1, hn => by
    have h1 := nww_m hw h hl hv n (by omega)
    have h2 := byy_m hw h (v := v) (u := n) (by omega) (hl n (by omega))
    rw [nww_s, nww_s]
    omega
theorem rnd_b {hr : Nat → Nat → Bool} {wt : Nat → Nat} {g : Nat} (hw : ∀ u, wt u = 1 ∨ wt u = 101) {t : Nat → Nat} (h : KI hr wt g t) {k : Nat} (hl : ∀ u, u < 6 → t u ≤ bel hr wt g k u) : ∀ n, n ≤ 6 → (∀ u, u < 6 → rnd hr wt t n u ≤ bel hr wt g k u) ∧ ∀ u, u < n → rnd hr wt t n u ≤ bel hr wt g (k + 1) u
  | 0, _ => ⟨hl, fun u hu => absurd hu (Nat.not_lt_zero u)⟩
  | n + 1, hn => by
    obtain ⟨h1, h2⟩ := rnd_b hw h hl n (by omega)
    have h3 := nww_m hw (KI_r hw h n (by omega)) h1 (v := n) (by omega) 6 (by omega)
    have h4 : nww hr wt (bel hr wt g k) n 6 = bel hr wt g (k + 1) n := rfl
    have h5 : bel hr wt g (k + 1) n ≤ bel hr wt g k n := bel_d hr wt g (Nat.le_succ k) n
    rw [rnd_s]
    refine ⟨fun u hu => ?_, fun u hu => ?_⟩
    · by_cases e : u = n
      · subst e; rw [vup_e]; omega
      · rw [vup_n _ _ e]; exact h1 u hu
    · by_cases e : u = n
      · subst e; rw [vup_e]; omega
      · rw [vup_n _ _ e]; exact h2 u (by omega)
theorem tkk_b {hr : Nat → Nat → Bool} {wt : Nat → Nat} {g : Nat} (hw : ∀ u, wt u = 1 ∨ wt u = 101) : ∀ k, ∀ u, u < 6 → tkk hr wt g k u ≤ bel hr wt g k u
  | 0 => fun u _ => Nat.le_refl _
  | k + 1 => fun u hu => by
    rw [tkk_s]
    exact (rnd_b hw (KI_k hw k) (tkk_b hw k) 6 (by omega)).2 u hu
theorem fix5 {hr : Nat → Nat → Bool} {wt : Nat → Nat} {g : Nat} (hw : ∀ u, wt u = 1 ∨ wt u = 101) {v : Nat} (hv : v < 6) : nww hr wt (tkk hr wt g 5) v 6 = tkk hr wt g 5 v := by
  have h1 := nww_t hr wt (tkk hr wt g 5) v 6
  have h2 := KI_s hw (KI_k (hr := hr) (wt := wt) (g := g) hw 5) hv
  have h3 := tkk_b (hr := hr) (wt := wt) (g := g) hw 5 v hv
  have e : vup (tkk hr wt g 5) v (nww hr wt (tkk hr wt g 5) v 6) v = nww hr wt (tkk hr wt g 5) v 6 := vup_e _ _ _
  have h4 := h2.2 v hv
  have h5 := KI_v h2 hv
  rw [e] at h4 h5
  rcases h4 with z | ⟨z1, z2, z3, z4, -⟩
  · rcases (KI_k (hr := hr) (wt := wt) (g := g) hw 5).2 v hv with y | y
    · omega
    · omega
  · have := bel_d hr wt g (show nww hr wt (tkk hr wt g 5) v 6 % 100 ≤ 5 by omega) v
    omega
theorem rnd_5 {hr : Nat → Nat → Bool} {wt : Nat → Nat} {g : Nat} (hw : ∀ u, wt u = 1 ∨ wt u = 101) : ∀ n, n ≤ 6 → rnd hr wt (tkk hr wt g 5) n = tkk hr wt g 5
  | 0, _ => rfl
  | n + 1, hn => by
    rw [rnd_s, rnd_5 hw n (by omega), fix5 hw (by omega)]
    funext w
    by_cases e : w = n
    · rw [e, vup_e]
    · rw [vup_n _ _ e]
/-- the costs at the end, and the room that comes next -/
def tE (hr : Nat → Nat → Bool) (wt : Nat → Nat) (g : Nat) : Nat → Nat := tkk hr wt g 6
theorem tE_5 {hr : Nat → Nat → Bool} {wt : Nat → Nat} {g : Nat} (hw : ∀ u, wt u = 1 ∨ wt u = 101) : tE hr wt g = tkk hr wt g 5 := by
  unfold tE
  rw [tkk_s]
  exact rnd_5 hw 6 (by omega)
theorem fixE {hr : Nat → Nat → Bool} {wt : Nat → Nat} {g : Nat} (hw : ∀ u, wt u = 1 ∨ wt u = 101) {v : Nat} (hv : v < 6) : nww hr wt (tE hr wt g) v 6 = tE hr wt g v := by
  rw [tE_5 hw]
  exact fix5 hw hv
def nxr (hr : Nat → Nat → Bool) (wt t : Nat → Nat) (v n : Nat) : Nat := itr (fun u b => if byy hr wt t v u < 10000 ∧ (b = 0 ∨ byy hr wt t v u < byy hr wt t v (b - 1)) then u + 1 else b) n 0 0
theorem nxr_s (hr : Nat → Nat → Bool) (wt t : Nat → Nat) (v n : Nat) : nxr hr wt t v (n + 1) = if byy hr wt t v n < 10000 ∧ (nxr hr wt t v n = 0 ∨ byy hr wt t v n < byy hr wt t v (nxr hr wt t v n - 1)) then n + 1 else nxr hr wt t v n := by
  show itr _ (n + 1) 0 _ = _
  rw [itr_s, Nat.zero_add]
  rfl
theorem nxr_le (hr : Nat → Nat → Bool) (wt t : Nat → Nat) (v n : Nat) : nxr hr wt t v n ≤ n := itr_I (n := n) (fun i b => b ≤ i) (fun i b _ h => by split <;> omega) (Nat.le_refl 0)
theorem byy_i {hr : Nat → Nat → Bool} {wt t : Nat → Nat} {v u : Nat} (h : ¬ byy hr wt t v u < 10000) (hv : ∀ u, t u < 10000 → t u + wt u < 10000) : byy hr wt t v u = 10000 := by
  unfold byy at h ⊢
  by_cases e : hr v u = true ∧ t u < 10000
  · rw [if_pos e] at h
    have := hv u e.2
    omega
  · rw [if_neg e]
theorem nxr_j (hr : Nat → Nat → Bool) (wt t : Nat → Nat) (v : Nat) : ∀ n, (nxr hr wt t v n = 0 ∧ ∀ u, u < n → ¬ byy hr wt t v u < 10000) ∨ (0 < nxr hr wt t v n ∧ byy hr wt t v (nxr hr wt t v n - 1) < 10000 ∧ (∀ u, u < n → byy hr wt t v (nxr hr wt t v n - 1) ≤ byy hr wt t v u) ∧ ∀ u, u < nxr hr wt t v n - 1 → byy hr wt t v (nxr hr wt t v n - 1) < byy hr wt t v u)
  | 0 => Or.inl ⟨rfl, fun u hu => absurd hu (Nat.not_lt_zero u)⟩
  | n + 1 => by
    have hle := nxr_le hr wt t v n
    rw [nxr_s]
    rcases nxr_j hr wt t v n with ⟨h1, h2⟩ | ⟨h1, h2, h3, h4⟩
    · by_cases e : byy hr wt t v n < 10000
      · rw [if_pos ⟨e, Or.inl h1⟩, Nat.add_sub_cancel]
        refine Or.inr ⟨by omega, e, fun u hu => ?_, fun u hu => ?_⟩
        · by_cases eu : u = n
          · subst eu; omega
          · have := h2 u (by omega); omega
        · have := h2 u hu; omega
      · rw [if_neg (fun z => e z.1)]
        refine Or.inl ⟨h1, fun u hu => ?_⟩
        by_cases eu : u = n
        · subst eu; exact e
        · exact h2 u (by omega)
    · by_cases e : byy hr wt t v n < byy hr wt t v (nxr hr wt t v n - 1)
      · rw [if_pos ⟨by omega, Or.inr e⟩, Nat.add_sub_cancel]
        refine Or.inr ⟨by omega, by omega, fun u hu => ?_, fun u hu => ?_⟩
        · by_cases eu : u = n
          · subst eu; omega
          · have := h3 u (by omega); omega
        · have := h3 u hu; omega
      · rw [if_neg (fun z => by omega)]
        refine Or.inr ⟨h1, h2, fun u hu => ?_, h4⟩
        by_cases eu : u = n
        · subst eu; omega
        · exact h3 u (by omega)
/-- the next room: its cost and its step -/
theorem nxE {hr : Nat → Nat → Bool} {wt : Nat → Nat} {g : Nat} (hw : ∀ u, wt u = 1 ∨ wt u = 101) {v : Nat} (hv : v < 6) (hg : v ≠ g) (hf : tE hr wt g v < 10000) : 0 < nxr hr wt (tE hr wt g) v 6 ∧ byy hr wt (tE hr wt g) v (nxr hr wt (tE hr wt g) v 6 - 1) = tE hr wt g v ∧ (∀ u, u < nxr hr wt (tE hr wt g) v 6 - 1 → byy hr wt (tE hr wt g) v u ≠ tE hr wt g v) ∧ tE hr wt g (nxr hr wt (tE hr wt g) v 6 - 1) < 10000 ∧ tE hr wt g (nxr hr wt (tE hr wt g) v 6 - 1) + wt (nxr hr wt (tE hr wt g) v 6 - 1) = tE hr wt g v := by
  have hk : KI hr wt g (tE hr wt g) := KI_k hw 6
  have hfix := fixE (hr := hr) (wt := wt) (g := g) hw hv
  obtain ⟨z1, z2, z3, z4, z5⟩ := (hk.2 v hv).resolve_left (by omega)
  obtain ⟨u, u1, u2, u3, u4⟩ := z5 hg
  have hbu : byy hr wt (tE hr wt g) v u = tE hr wt g u + wt u := if_pos ⟨u2, u3⟩
  have hle := nxr_le hr wt (tE hr wt g) v 6
  rcases nxr_j hr wt (tE hr wt g) v 6 with ⟨h1, h2⟩ | ⟨h1, h2, h3, h4⟩
  · exact absurd (show byy hr wt (tE hr wt g) v u < 10000 by omega) (h2 u u1)
  · have a1 := h3 u u1
    have a2 := nww_b hr wt (tE hr wt g) v 6 (show nxr hr wt (tE hr wt g) v 6 - 1 < 6 by omega)
    have a3 : byy hr wt (tE hr wt g) v (nxr hr wt (tE hr wt g) v 6 - 1) = tE hr wt g v := by omega
    have hb : hr v (nxr hr wt (tE hr wt g) v 6 - 1) = true ∧ tE hr wt g (nxr hr wt (tE hr wt g) v 6 - 1) < 10000 := by
      refine Decidable.byContradiction (fun z => ?_)
      have : byy hr wt (tE hr wt g) v (nxr hr wt (tE hr wt g) v 6 - 1) = 10000 := if_neg z
      omega
    have a4 : byy hr wt (tE hr wt g) v (nxr hr wt (tE hr wt g) v 6 - 1) = tE hr wt g (nxr hr wt (tE hr wt g) v 6 - 1) + wt (nxr hr wt (tE hr wt g) v 6 - 1) := if_pos hb
    exact ⟨h1, a3, fun u hu => by have := h4 u hu; omega, hb.2, by omega⟩
