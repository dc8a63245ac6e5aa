section RST
variable {N c : Nat} {A : AK} {M M' : ZM}
theorem r_getsBy {l t s : Int} (hl : 0 ≤ l ∧ l ≤ 9) {a b : Int} (ha : a = 0 ∨ a = 1) (hb : b = 0 ∨ b = 1) : Mo_getsBy N l t s a b M = some (zgain a b l t s, M) := by
  unfold Mo_getsBy zgain
  rw [zs (by omega)]
  rcases ha with rfl | rfl <;> rcases hb with rfl | rfl <;> rfl
theorem r_rs61 {l t s w x : Int} (hl : 0 ≤ l ∧ l ≤ 9) {n k : Nat} (hk : k < 4) (hx : 0 ≤ x ∧ x < 10) : Mo_rests_61 N (n + 1) 0 l t s w x k M = if zkeeps ((k / 2 : Nat) : Int) ((k % 2 : Nat) : Int) l t s then (if x = w then some ((k : Int), M) else Mo_rests_61 N n 0 l t s w (x + 1) ((k + 1 : Nat) : Int) M) else Mo_rests_61 N n 0 l t s w x ((k + 1 : Nat) : Int) M := by
  have ha : ((k / 2 : Nat) : Int) = 0 ∨ ((k / 2 : Nat) : Int) = 1 := by omega
  have hb : ((k % 2 : Nat) : Int) = 0 ∨ ((k % 2 : Nat) : Int) = 1 := by omega
  have e1 : z32 ((k : Int).tdiv 2) = ((k / 2 : Nat) : Int) := by
    have : k = 0 ∨ k = 1 ∨ k = 2 ∨ k = 3 := by omega
    rcases this with rfl | rfl | rfl | rfl <;> decide
  have e2 : (k : Int).tmod 2 = ((k % 2 : Nat) : Int) := by
    have : k = 0 ∨ k = 1 ∨ k = 2 ∨ k = 3 := by omega
    rcases this with rfl | rfl | rfl | rfl <;> decide
  rw [Mo_rests_61, if_pos (by omega), zW_e, e1, zW_e, e2]
  clear e1 e2
  generalize hA : ((k / 2 : Nat) : Int) = a at *
  generalize hB : ((k % 2 : Nat) : Int) = b at *
  rw [zs (x := 1 - a) (by omega), r_getsBy hl (by omega) (by omega), zB_s, r_getsBy hl (by omega) (by omega), zB_s, zsucc (by omega)]
  by_cases c1 : zgain a b l t s < zgain (1 - a) b l t s
  · have hz : ¬ (zkeeps a b l t s = true) := by simp [zkeeps]; omega
    rw [if_pos c1, if_neg hz, zW_e]
  · rw [if_neg c1, zs (x := 1 - b) (by omega), r_getsBy hl (by omega) (by omega), zB_s, r_getsBy hl (by omega) (by omega), zB_s]
    by_cases c2 : zgain b a l t s < zgain (1 - b) a l t s
    · have hz : ¬ (zkeeps a b l t s = true) := by simp [zkeeps]; omega
      rw [if_pos c2, if_neg hz, zW_e]
    · have hz : zkeeps a b l t s = true := by simp [zkeeps]; omega
      rw [if_neg c2, if_pos hz, zW_e, zs (x := x + 1) (by omega), zW_e]
theorem r_rs4 {l t s w x : Int} {n : Nat} : Mo_rests_61 N (n + 1) 0 l t s w x 4 M = if w = -1 then some (x, pI M 11 0 0 0) else some (0, pI M 11 0 0 1) := by
  rw [Mo_rests_61, if_neg (by omega)]
  by_cases e : w = -1
  · rw [if_pos e, if_pos e, zW_e, if_pos e]
  · rw [if_neg e, if_neg e, zW_e, if_neg e]
def rsR (w x : Int) (L : List Int) (M : ZM) : Option (Int × ZM) := if w = -1 then some (x + (L.length : Int), pI M 11 0 0 0) else match L[(w - x).toNat]? with
  | none => some (0, pI M 11 0 0 1)
  | some v => some (v, M)
theorem r_rst {l t s w : Int} (hl : 0 ≤ l ∧ l ≤ 9) {n k : Nat} (hk : k < 4) {L : List Int} (h : ∀ x : Int, 0 ≤ x ∧ x ≤ ((k + 1 : Nat) : Int) → (w = -1 ∨ x ≤ w) → Mo_rests_61 N n 0 l t s w x ((k + 1 : Nat) : Int) M = rsR w x L M) (x : Int) (hx : 0 ≤ x ∧ x ≤ (k : Int)) (hw : w = -1 ∨ x ≤ w) : Mo_rests_61 N (n + 1) 0 l t s w x k M = rsR w x ((if zkeeps ((k / 2 : Nat) : Int) ((k % 2 : Nat) : Int) l t s then [(k : Int)] else []) ++ L) M := by
  rw [r_rs61 hl hk (by omega)]
  by_cases hz : zkeeps ((k / 2 : Nat) : Int) ((k % 2 : Nat) : Int) l t s = true
  · rw [if_pos hz, if_pos hz]
    by_cases e : x = w
    · subst e
      rw [if_pos rfl]
      unfold rsR
      rw [if_neg (by omega), show (x - x).toNat = 0 by omega]
      rfl
    · rw [if_neg e, h (x + 1) (by omega) (by omega)]
      unfold rsR
      by_cases e2 : w = -1
      · rw [if_pos e2, if_pos e2]
        simp
        omega
      · rw [if_neg e2, if_neg e2, show (w - x).toNat = (w - (x + 1)).toNat + 1 by omega]
        rfl
  · rw [if_neg hz, if_neg hz, h x (by omega) hw]
    rfl
theorem r_rsl {l t s w : Int} (hl : 0 ≤ l ∧ l ≤ 9) (hw : -1 ≤ w) (hN : 2000 ≤ N) : Mo_rests_61 N N 0 l t s w 0 0 M = rsR w 0 (zrl l t s) M := by
  obtain ⟨n, hn⟩ : ∃ n, N = n + 5 := ⟨N - 5, by omega⟩
  have s4 : ∀ x : Int, 0 ≤ x ∧ x ≤ ((3 + 1 : Nat) : Int) → (w = -1 ∨ x ≤ w) → Mo_rests_61 N (n + 1) 0 l t s w x ((3 + 1 : Nat) : Int) M = rsR w x [] M := fun x _ _ => by
    rw [show ((3 + 1 : Nat) : Int) = 4 from rfl, r_rs4]
    unfold rsR
    by_cases e : w = -1
    · rw [if_pos e, if_pos e]; simp
    · rw [if_neg e, if_neg e]; rfl
  have s0 := r_rst hl (k := 0) (by omega) (r_rst hl (k := 1) (by omega) (r_rst hl (k := 2) (by omega) (r_rst hl (k := 3) (by omega) s4))) 0 (by omega) (by omega)
  have e : Mo_rests_61 N N 0 l t s w 0 0 M = Mo_rests_61 N (n + 1 + 1 + 1 + 1 + 1) 0 l t s w 0 ((0 : Nat) : Int) M := by rw [show n + 1 + 1 + 1 + 1 + 1 = N by omega]; rfl
  rw [e, s0]
  congr 1
  unfold zrl
  rw [List.append_nil, List.append_assoc, List.append_assoc]
  rfl
theorem m_rests (h : RA A M) (hN : 2000 ≤ N) (l t s w : Int) : ∃ M', Mo_rests N 0 l t s w M = some (zrv l t s w, M') ∧ mI M' 11 0 0 = zrt l t s w ∧ RA A M' ∧ zRl M M' := by
  have bad : ¬ (0 ≤ l ∧ l ≤ 9 ∧ 0 ≤ t ∧ t ≤ 9 ∧ 0 ≤ s ∧ s ≤ 9 ∧ -1 ≤ w) → ∃ M', Mo_rests_42 N 0 l t s w 0 1 M = some (zrv l t s w, M') ∧ mI M' 11 0 0 = zrt l t s w ∧ RA A M' ∧ zRl M M' := fun hb => by
    have e : zrests l t s w = none := by unfold zrests; rw [if_neg hb]
    unfold Mo_rests_42
    rw [zW_e, mI_pI_eq, if_pos rfl]
    unfold zrv zrt
    rw [e]
    exact ⟨_, rfl, mI_pI_eq, h.z 1, zRl.z 1⟩
  unfold Mo_rests
  rw [r_within, zB_s]
  by_cases b1 : 0 ≤ l ∧ l ≤ 9
  · rw [if_pos b1, if_neg (by decide), r_within, zB_s]
    by_cases b2 : 0 ≤ t ∧ t ≤ 9
    · rw [if_pos b2, if_neg (by decide), r_within, zB_s]
      by_cases b3 : 0 ≤ s ∧ s ≤ 9
      · rw [if_pos b3, if_neg (by decide)]
        by_cases b4 : w < -1
        · rw [if_pos b4]; exact bad (by omega)
        · rw [if_neg b4]
          unfold Mo_rests_42
          rw [zW_e, mI_pI_eq, if_neg (by decide), r_rsl b1 (by omega) hN]
          unfold rsR zrv zrt zrests
          rw [if_pos (show 0 ≤ l ∧ l ≤ 9 ∧ 0 ≤ t ∧ t ≤ 9 ∧ 0 ≤ s ∧ s ≤ 9 ∧ -1 ≤ w by omega)]
          have z2 : ∀ x : Int, RA A (pI (pI M 11 0 0 0) 11 0 0 x) ∧ zRl M (pI (pI M 11 0 0 0) 11 0 0 x) := fun x => ⟨(h.z 0).z x, (zRl.z 0).tr (zRl.z x)⟩
          by_cases e : w = -1
          · rw [if_pos e, if_pos e]
            exact ⟨_, by rw [Int.zero_add], mI_pI_eq, z2 0⟩
          · rw [if_neg e, if_neg e, Int.sub_zero]
            cases (zrl l t s)[w.toNat]? with
            | none => exact ⟨_, rfl, mI_pI_eq, z2 1⟩
            | some v => exact ⟨_, rfl, mI_pI_eq, h.z 0, zRl.z 0⟩
      · rw [if_neg b3, if_pos rfl]; exact bad (by omega)
    · rw [if_neg b2, if_pos rfl]; exact bad (by omega)
  · rw [if_neg b1, if_pos rfl]; exact bad (by omega)
end RST
