section RSM
variable {N : Nat} {M : ZM}
def gRs {β : Type} (hit : Int → Option β) (miss : Option β) (w x : Int) (L : List Int) : Option β := if w = -1 then hit (x + (L.length : Int)) else match L[(w - x).toNat]? with
  | none => miss
  | some v => hit v
theorem g_rst {β : Type} {hit : Int → Option β} {miss : Option β} {F G : Int → Option β} {w : Int} {z : Bool} {k : Nat} (hF : ∀ x : Int, 0 ≤ x ∧ x ≤ (k : Int) → F x = if z then (if x = w then hit (k : Int) else G (x + 1)) else G x) {L : List Int} (h : ∀ x : Int, 0 ≤ x ∧ x ≤ ((k + 1 : Nat) : Int) → (w = -1 ∨ x ≤ w) → G x = gRs hit miss w x L) (x : Int) (hx : 0 ≤ x ∧ x ≤ (k : Int)) (hw : w = -1 ∨ x ≤ w) : F x = gRs hit miss w x ((if z then [(k : Int)] else []) ++ L) := by
  rw [hF x hx]
  by_cases hz : z = true
  · rw [if_pos hz, if_pos hz]
    by_cases e : x = w
    · subst e
      rw [if_pos rfl]
      unfold gRs
      rw [if_neg (by omega), show (x - x).toNat = 0 by omega]
      rfl
    · rw [if_neg e, h (x + 1) (by omega) (by omega)]
      unfold gRs
      by_cases e2 : w = -1
      · rw [if_pos e2, if_pos e2]
        congr 1
        simp
        omega
      · rw [if_neg e2, if_neg e2, show (w - x).toNat = (w - (x + 1)).toNat + 1 by omega]
        rfl
  · rw [if_neg hz, if_neg hz, h x (by omega) hw]
    rfl
theorem k_gain {l t s : Int} (hl : 0 ≤ l ∧ l ≤ 9) {a b : Int} (ha : a = 0 ∨ a = 1) (hb : b = 0 ∨ b = 1) : Wp_gain N a b l t s M = some (zgain a b l t s, M) := by
  unfold Wp_gain zgain
  rw [zs (by omega)]
  rcases ha with rfl | rfl <;> rcases hb with rfl | rfl <;> rfl
theorem k_keeps {l t s : Int} (hl : 0 ≤ l ∧ l ≤ 9) {a b : Int} (ha : a = 0 ∨ a = 1) (hb : b = 0 ∨ b = 1) : Wp_keeps N a b l t s M = if zgain a b l t s < zgain (1 - a) b l t s then some (0, M) else some (1, M) := by
  unfold Wp_keeps
  rw [zs (x := 1 - a) (by omega), k_gain hl ha hb, zB_s, k_gain hl (by omega) hb, zB_s]
theorem k_bits {k : Nat} (hk : k < 4) : z_shr (k : Int) 1 = ((k / 2 : Nat) : Int) ∧ z_and (k : Int) 1 = ((k % 2 : Nat) : Int) := by
  have : k = 0 ∨ k = 1 ∨ k = 2 ∨ k = 3 := by omega
  rcases this with rfl | rfl | rfl | rfl <;> decide
theorem k_stepI {l t s w x : Int} (hl : 0 ≤ l ∧ l ≤ 9) {n k : Nat} (hk : k < 4) (hx : 0 ≤ x ∧ x ≤ (k : Int)) : Rsi_41 N (n + 1) l t s w x k M = if zkeeps ((k / 2 : Nat) : Int) ((k % 2 : Nat) : Int) l t s then (if x = w then some ((k : Int), M) else Rsi_41 N n l t s w (x + 1) ((k + 1 : Nat) : Int) M) else Rsi_41 N n l t s w x ((k + 1 : Nat) : Int) M := by
  have ha : ((k / 2 : Nat) : Int) = 0 ∨ ((k / 2 : Nat) : Int) = 1 := by omega
  have hb : ((k % 2 : Nat) : Int) = 0 ∨ ((k % 2 : Nat) : Int) = 1 := by omega
  rw [Rsi_41, if_pos (by omega), zW_e, (k_bits hk).1, zW_e, (k_bits hk).2]
  generalize hA : ((k / 2 : Nat) : Int) = a at *
  generalize hB : ((k % 2 : Nat) : Int) = b at *
  rw [k_keeps hl ha hb, zsucc (by omega)]
  by_cases c1 : zgain a b l t s < zgain (1 - a) b l t s
  · have hz : ¬ (zkeeps a b l t s = true) := by simp [zkeeps]; omega
    rw [if_pos c1, if_neg hz, zB_s, if_pos rfl, zW_e]
  · rw [if_neg c1, zB_s, if_neg (by decide), k_keeps hl hb ha]
    by_cases c2 : zgain b a l t s < zgain (1 - b) a l t s
    · have hz : ¬ (zkeeps a b l t s = true) := by simp [zkeeps]; omega
      rw [if_pos c2, if_neg hz, zB_s, if_pos rfl, zW_e]
    · have hz : zkeeps a b l t s = true := by simp [zkeeps]; omega
      rw [if_neg c2, if_pos hz, zB_s, if_neg (by decide), zs (x := x + 1) (by omega), zW_e, zW_e]
theorem k_stepV {l t s w x : Int} (hl : 0 ≤ l ∧ l ≤ 9) {n k : Nat} (hk : k < 4) (hx : 0 ≤ x ∧ x ≤ (k : Int)) : Rsv_41 N (n + 1) l t s w x k M = if zkeeps ((k / 2 : Nat) : Int) ((k % 2 : Nat) : Int) l t s then (if x = w then none else Rsv_41 N n l t s w (x + 1) ((k + 1 : Nat) : Int) M) else Rsv_41 N n l t s w x ((k + 1 : Nat) : Int) M := by
  have ha : ((k / 2 : Nat) : Int) = 0 ∨ ((k / 2 : Nat) : Int) = 1 := by omega
  have hb : ((k % 2 : Nat) : Int) = 0 ∨ ((k % 2 : Nat) : Int) = 1 := by omega
  rw [Rsv_41, if_pos (by omega), zW_e, (k_bits hk).1, zW_e, (k_bits hk).2]
  generalize hA : ((k / 2 : Nat) : Int) = a at *
  generalize hB : ((k % 2 : Nat) : Int) = b at *
  rw [k_keeps hl ha hb, zsucc (by omega)]
  by_cases c1 : zgain a b l t s < zgain (1 - a) b l t s
  · have hz : ¬ (zkeeps a b l t s = true) := by simp [zkeeps]; omega
    rw [if_pos c1, if_neg hz, zB_s, if_pos rfl, zW_e]
  · rw [if_neg c1, zB_s, if_neg (by decide), k_keeps hl hb ha]
    by_cases c2 : zgain b a l t s < zgain (1 - b) a l t s
    · have hz : ¬ (zkeeps a b l t s = true) := by simp [zkeeps]; omega
      rw [if_pos c2, if_neg hz, zB_s, if_pos rfl, zW_e]
    · have hz : zkeeps a b l t s = true := by simp [zkeeps]; omega
      rw [if_neg c2, if_pos hz, zB_s, if_neg (by decide), zs (x := x + 1) (by omega), zW_e, zW_e]
theorem k_runI {l t s w : Int} (hl : 0 ≤ l ∧ l ≤ 9) (hw : -1 ≤ w) (hN : 2000 ≤ N) : Rsi_41 N N l t s w 0 0 M = gRs (fun v => some (v, M)) none w 0 (zrl l t s) := by
  obtain ⟨n, hn⟩ : ∃ n, N = n + 5 := ⟨N - 5, by omega⟩
  have s4 : ∀ x : Int, 0 ≤ x ∧ x ≤ ((3 + 1 : Nat) : Int) → (w = -1 ∨ x ≤ w) → Rsi_41 N (n + 1) l t s w x ((3 + 1 : Nat) : Int) M = gRs (fun v => some (v, M)) none w x [] := fun x _ _ => by
    rw [show ((3 + 1 : Nat) : Int) = 4 from rfl, Rsi_41, if_neg (by omega)]
    unfold gRs
    by_cases e : w = -1
    · rw [if_pos e, if_pos e]; simp
    · rw [if_neg e, if_neg e]; rfl
  have s0 := g_rst (k := 0) (fun x hx => k_stepI (M := M) hl (by omega) hx) (g_rst (k := 1) (fun x hx => k_stepI hl (by omega) hx) (g_rst (k := 2) (fun x hx => k_stepI hl (by omega) hx) (g_rst (k := 3) (fun x hx => k_stepI hl (by omega) hx) s4))) 0 (by omega) (by omega)
  have e : Rsi_41 N N l t s w 0 0 M = Rsi_41 N (n + 1 + 1 + 1 + 1 + 1) l t s w 0 ((0 : Nat) : Int) M := by rw [show n + 1 + 1 + 1 + 1 + 1 = N by omega]; rfl
  rw [e, s0]
  congr 1
  unfold zrl
  rw [List.append_nil, List.append_assoc, List.append_assoc]
  rfl
theorem k_runV {l t s w : Int} (hl : 0 ≤ l ∧ l ≤ 9) (hw : -1 ≤ w) (hN : 2000 ≤ N) : Rsv_41 N N l t s w 0 0 M = gRs (fun _ => none) (some M) w 0 (zrl l t s) := by
  obtain ⟨n, hn⟩ : ∃ n, N = n + 5 := ⟨N - 5, by omega⟩
  have s4 : ∀ x : Int, 0 ≤ x ∧ x ≤ ((3 + 1 : Nat) : Int) → (w = -1 ∨ x ≤ w) → Rsv_41 N (n + 1) l t s w x ((3 + 1 : Nat) : Int) M = gRs (fun _ => none) (some M) w x [] := fun x _ _ => by
    rw [show ((3 + 1 : Nat) : Int) = 4 from rfl, Rsv_41, if_neg (by omega)]
    unfold gRs
    by_cases e : w = -1
    · rw [if_pos e, if_pos e]
    · rw [if_neg e, if_neg e]; rfl
  have s0 := g_rst (k := 0) (fun x hx => k_stepV (M := M) hl (by omega) hx) (g_rst (k := 1) (fun x hx => k_stepV hl (by omega) hx) (g_rst (k := 2) (fun x hx => k_stepV hl (by omega) hx) (g_rst (k := 3) (fun x hx => k_stepV hl (by omega) hx) s4))) 0 (by omega) (by omega)
  have e : Rsv_41 N N l t s w 0 0 M = Rsv_41 N (n + 1 + 1 + 1 + 1 + 1) l t s w 0 ((0 : Nat) : Int) M := by rw [show n + 1 + 1 + 1 + 1 + 1 = N by omega]; rfl
  rw [e, s0]
  congr 1
  unfold zrl
  rw [List.append_nil, List.append_assoc, List.append_assoc]
  rfl
theorem k_digit {x : Int} : Wp_isDigit N x M = some (if 0 ≤ x ∧ x ≤ 9 then 1 else 0, M) := by
  unfold Wp_isDigit
  by_cases a : x < 0
  · rw [if_pos a, if_neg (by omega)]
  · rw [if_neg a]
    by_cases b : 9 < x
    · rw [if_pos b, if_neg (by omega)]
    · rw [if_neg b, if_pos (by omega)]
/-- rests answers .. -/
theorem k_rsI (hN : 2000 ≤ N) {l t s w : Int} (h : ¬ zrt l t s w = 1) : Rsi N l t s w M = some (zrv l t s w, M) := by
  have h2 : 0 ≤ l ∧ l ≤ 9 ∧ 0 ≤ t ∧ t ≤ 9 ∧ 0 ≤ s ∧ s ≤ 9 ∧ -1 ≤ w := by
    by_cases z : 0 ≤ l ∧ l ≤ 9 ∧ 0 ≤ t ∧ t ≤ 9 ∧ 0 ≤ s ∧ s ≤ 9 ∧ -1 ≤ w
    · exact z
    · exact absurd (by unfold zrt zrests; rw [if_neg z]) h
  unfold Rsi
  rw [k_digit, zB_s, if_pos (show 0 ≤ l ∧ l ≤ 9 by omega), if_neg (by decide), k_digit, zB_s, if_pos (show 0 ≤ t ∧ t ≤ 9 by omega), if_neg (by decide), k_digit, zB_s, if_pos (show 0 ≤ s ∧ s ≤ 9 by omega), if_neg (by decide), if_neg (by omega), k_runI (by omega) (by omega) hN]
  revert h
  unfold gRs zrv zrt zrests
  rw [if_pos h2]
  by_cases e : w = -1
  · rw [if_pos e, if_pos e]
    intro _
    rw [Int.zero_add]
  · rw [if_neg e, if_neg e, Int.sub_zero]
    cases (zrl l t s)[w.toNat]? with
    | none => intro h; exact absurd rfl h
    | some v => intro _; rfl
/-- .. or comes to where it throws -/
theorem k_rsV (hN : 2000 ≤ N) {l t s w : Int} (h : zrt l t s w = 1) : Rsv N l t s w M = some M := by
  unfold Rsv
  rw [k_digit, zB_s]
  by_cases b1 : 0 ≤ l ∧ l ≤ 9
  · rw [if_pos b1, if_neg (by decide), k_digit, zB_s]
    by_cases b2 : 0 ≤ t ∧ t ≤ 9
    · rw [if_pos b2, if_neg (by decide), k_digit, zB_s]
      by_cases b3 : 0 ≤ s ∧ s ≤ 9
      · rw [if_pos b3, if_neg (by decide)]
        by_cases b4 : w < -1
        · rw [if_pos b4]
        · rw [if_neg b4, k_runV b1 (by omega) hN]
          revert h
          unfold gRs zrt zrests
          rw [if_pos (show 0 ≤ l ∧ l ≤ 9 ∧ 0 ≤ t ∧ t ≤ 9 ∧ 0 ≤ s ∧ s ≤ 9 ∧ -1 ≤ w by omega)]
          by_cases e : w = -1
          · rw [if_pos e, if_pos e]
            intro h; exact absurd h (show ¬ ((0 : Int) = 1) by decide)
          · rw [if_neg e, if_neg e, Int.sub_zero]
            cases (zrl l t s)[w.toNat]? with
            | none => intro _; rfl
            | some v => intro h; exact absurd h (show ¬ ((0 : Int) = 1) by decide)
      · rw [if_neg b3, if_pos rfl]
    · rw [if_neg b2, if_pos rfl]
  · rw [if_neg b1, if_pos rfl]
end RSM
