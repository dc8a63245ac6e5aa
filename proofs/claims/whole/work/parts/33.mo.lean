/-- memory only grows, and its constants stay -/
def zmo (M M1 : ZM) : Prop := (∀ t, mC M t ≤ mC M1 t) ∧ M.2.2.2.2.1 ≤ M1.2.2.2.2.1 ∧ M.2.2.2.2.2 ≤ M1.2.2.2.2.2 ∧ M1.2.2.2.1.2.2.1 = M.2.2.2.1.2.2.1 ∧ M1.2.2.2.1.2.2.2.1 = M.2.2.2.1.2.2.2.1
theorem zmo_rf (M : ZM) : zmo M M := ⟨fun _ => Nat.le_refl _, Nat.le_refl _, Nat.le_refl _, rfl, rfl⟩
theorem zmo_tr {M M1 M2 : ZM} (h : zmo M M1) (h2 : zmo M1 M2) : zmo M M2 := ⟨fun t => Nat.le_trans (h.1 t) (h2.1 t), Nat.le_trans h.2.1 h2.2.1, Nat.le_trans h.2.2.1 h2.2.2.1, h2.2.2.2.1.trans h.2.2.2.1, h2.2.2.2.2.trans h.2.2.2.2⟩
theorem zmo_new (M : ZM) (t n : Nat) : zmo M (pNew M t n) := ⟨fun t' => by
  show mC M t' ≤ if t' = t then mC M t + 1 else mC M t'
  split
  · next e => rw [e]; exact Nat.le_succ _
  · exact Nat.le_refl _, Nat.le_succ _, Nat.le_add_right _ _, rfl, rfl⟩
theorem zmo_newl (M : ZM) (t i n m : Nat) : zmo M (pNew (pLen M t i n) t m) := zmo_tr (show zmo M (pLen M t i n) from ⟨fun _ => Nat.le_refl _, Nat.le_refl _, Nat.le_refl _, rfl, rfl⟩) (zmo_new _ _ _)
theorem zmo_ce (M : ZM) (n : Nat) : zmo M (pCe M n) := ⟨fun _ => Nat.le_refl _, Nat.le_succ _, Nat.le_add_right _ _, rfl, rfl⟩
section ZMO
variable {β : Type} {P : Prop} {r : β}
theorem zel {c : Prop} [Decidable c] {a b : Option β} (h : (if c then a else b) = some r) (ha : a = some r → P) (hb : b = some r → P) : P := by
  by_cases e : c
  · rw [if_pos e] at h; exact ha h
  · rw [if_neg e] at h; exact hb h
theorem zbl {b : Bool} {a : Option β} (h : zbm b a none = some r) (ha : a = some r → P) : P := by
  cases b with
  | true => exact ha h
  | false => cases h
theorem zml {q : Nat} {a0 a1 a2 a3 a4 a5 a6 : Option β} (h : zem q a0 a1 a2 a3 a4 a5 a6 none = some r) (h0 : a0 = some r → P) (h1 : a1 = some r → P) (h2 : a2 = some r → P) (h3 : a3 = some r → P) (h4 : a4 = some r → P) (h5 : a5 = some r → P) (h6 : a6 = some r → P) : P := by
  match q, h with
  | 0, h => exact h0 h
  | 1, h => exact h1 h
  | 2, h => exact h2 h
  | 3, h => exact h3 h
  | 4, h => exact h4 h
  | 5, h => exact h5 h
  | 6, h => exact h6 h
  | _ + 7, h => cases h
theorem zld_mo {o : Option ZV} {f : ZV → Option β} (hf : ∀ v, f v = some r → P) (h : zld o f none = some r) : P := by
  cases o with
  | none => cases h
  | some v => exact hf v h
theorem zgf_mo {M : ZM} {ax : List Nat} {i : Nat} {f : ZV → Option β} (hf : ∀ v, f v = some r → P) (h : zgf M ax i f none = some r) : P := by
  unfold zgf at h
  split at h
  · split at h <;> first | exact hf _ h | cases h
  · cases h
theorem zpf_mo {M : ZM} {ax : List Nat} {i : Nat} {v : ZV} {f : ZM → Option β} (hf : ∀ M1, f M1 = some r → zmo M M1 → P) (h : zpf M ax i v f none = some r) : P := by
  unfold zpf at h
  split at h
  · split at h
    · exact hf _ h ⟨fun _ => Nat.le_refl _, Nat.le_refl _, Nat.le_refl _, rfl, rfl⟩
    · exact zbl h (fun h => hf _ h ⟨fun _ => Nat.le_refl _, Nat.le_refl _, Nat.le_refl _, rfl, rfl⟩)
    · exact hf _ h ⟨fun _ => Nat.le_refl _, Nat.le_refl _, Nat.le_refl _, rfl, rfl⟩
    · exact zbl h (fun h => hf _ h ⟨fun _ => Nat.le_refl _, Nat.le_refl _, Nat.le_refl _, rfl, rfl⟩)
    · split at h
      · exact hf _ h ⟨fun _ => Nat.le_refl _, Nat.le_refl _, Nat.le_refl _, rfl, rfl⟩
      · exact zbl h (fun h => hf _ h ⟨fun _ => Nat.le_refl _, Nat.le_refl _, Nat.le_refl _, rfl, rfl⟩)
    · cases h
  · cases h
theorem ziv_mo {M : ZM} {ax : List Nat} {st : List ZV} {f : List ZV → ZM → Option β} {g : Nat → List ZV → List ZV → Option β} (hf : ∀ v M1, f v M1 = some r → zmo M M1 → P) (hg : ∀ a b c, g a b c = some r → P) (h : ziv M ax st f g none = some r) : P := by
  unfold ziv at h
  split at h
  · split at h
    · exact zbl h (fun h => hg _ _ _ h)
    · cases h
  · split at h
    · exact zbl h (fun h => hg _ _ _ h)
    · cases h
  · split at h
    · exact zbl h (fun h => hf _ _ h ⟨fun _ => Nat.le_refl _, Nat.le_refl _, Nat.le_refl _, rfl, rfl⟩)
    · cases h
  · split at h
    · exact zbl h (fun h => zml h (fun h => zml h (fun h => zel h (fun h => hf _ _ h ⟨fun _ => Nat.le_refl _, Nat.le_refl _, Nat.le_refl _, rfl, rfl⟩) (fun h => nomatch h)) (fun h => nomatch h) (fun h => nomatch h) (fun h => nomatch h) (fun h => nomatch h) (fun h => nomatch h) (fun h => nomatch h)) (fun h => nomatch h) (fun h => nomatch h) (fun h => nomatch h) (fun h => nomatch h) (fun h => nomatch h) (fun h => nomatch h))
    · cases h
  · split at h
    · exact zbl h (fun h => hf _ _ h ⟨fun _ => Nat.le_refl _, Nat.le_refl _, Nat.le_refl _, rfl, rfl⟩)
    · cases h
  · split at h
    · exact zbl h (fun h => zel h (fun h => hf _ _ h (zmo_ce M 6)) (fun h => hf _ _ h ⟨fun _ => Nat.le_refl _, Nat.le_refl _, Nat.le_refl _, rfl, rfl⟩))
    · cases h
  · split at h
    · exact zbl h (fun h => hf _ _ h ⟨fun _ => Nat.le_refl _, Nat.le_refl _, Nat.le_refl _, rfl, rfl⟩)
    · cases h
  · split at h
    · exact zbl h (fun h => hf _ _ h ⟨fun _ => Nat.le_refl _, Nat.le_refl _, Nat.le_refl _, rfl, rfl⟩)
    · cases h
  · split at h
    · exact zbl h (fun h => hf _ _ h ⟨fun _ => Nat.le_refl _, Nat.le_refl _, Nat.le_refl _, rfl, rfl⟩)
    · cases h
  · cases h
end ZMO
set_option maxHeartbeats 4000000 in
theorem zst_mo {P : Prop} {r : ZR} {k : Nat → ZL → List ZV → ZM → Option ZR} {kr : Option ZV → ZM → Option ZR} {kc : Nat → List ZV → List ZV → Option ZR} {M : ZM} (hk : ∀ pc ls st M1, k pc ls st M1 = some r → zmo M M1 → P) (hr : ∀ v M1, kr v M1 = some r → zmo M M1 → P) (hc : ∀ mi as rest, kc mi as rest = some r → P) {e : ZE} {pc : Nat} {ls : ZL} {st : List ZV} (h : zst e pc ls st M k kr kc none = some r) : P := by
  obtain ⟨ins, len, ax, cv⟩ := e
  have sw : ∀ (x : Int) (cv : List Int) (ts : List Nat) (f : Nat → Option ZR) (d : Option ZR), (∀ t, f t = some r → P) → (d = some r → P) → zsw x cv ts f d = some r → P := by
    intro x cv
    induction cv with
    | nil => intro ts f d hf hd h; exact hd h
    | cons v vs ih =>
      intro ts f d hf hd h
      cases ts with
      | nil => exact hd h
      | cons t ts =>
        simp only [zsw] at h
        exact zel h (hf t) (ih ts f d hf hd)
  have br : ∀ (c : ClassFile.Cond) (x y : Int) (a b : Option ZR), (a = some r → P) → (b = some r → P) → zbr c x y a b = some r → P := by
    intro c x y a b ha hb h
    cases c <;> simp only [zbr] at h <;> first | exact zel h ha hb | exact zel h hb ha
  cases ins
  case aload => exact zld_mo (fun v hv => by rcases v with x | x | x <;> first | exact hk _ _ _ _ hv ⟨fun _ => Nat.le_refl _, Nat.le_refl _, Nat.le_refl _, rfl, rfl⟩ | (cases hv; done)) h
  case aload_n => exact zld_mo (fun v hv => by rcases v with x | x | x <;> first | exact hk _ _ _ _ hv ⟨fun _ => Nat.le_refl _, Nat.le_refl _, Nat.le_refl _, rfl, rfl⟩ | (cases hv; done)) h
  case iload => exact zld_mo (fun v hv => by rcases v with x | x | x <;> first | exact hk _ _ _ _ hv ⟨fun _ => Nat.le_refl _, Nat.le_refl _, Nat.le_refl _, rfl, rfl⟩ | (cases hv; done)) h
  case iload_n => exact zld_mo (fun v hv => by rcases v with x | x | x <;> first | exact hk _ _ _ _ hv ⟨fun _ => Nat.le_refl _, Nat.le_refl _, Nat.le_refl _, rfl, rfl⟩ | (cases hv; done)) h
  case lload => exact zld_mo (fun v hv => by rcases v with x | x | x <;> first | exact hk _ _ _ _ hv ⟨fun _ => Nat.le_refl _, Nat.le_refl _, Nat.le_refl _, rfl, rfl⟩ | (cases hv; done)) h
  case lload_n => exact zld_mo (fun v hv => by rcases v with x | x | x <;> first | exact hk _ _ _ _ hv ⟨fun _ => Nat.le_refl _, Nat.le_refl _, Nat.le_refl _, rfl, rfl⟩ | (cases hv; done)) h
  case iinc => exact zld_mo (fun v hv => by rcases v with x | x | x <;> first | exact hk _ _ _ _ hv ⟨fun _ => Nat.le_refl _, Nat.le_refl _, Nat.le_refl _, rfl, rfl⟩ | (cases hv; done)) h
  case astore => rcases st with _ | ⟨x | x | x, st⟩ <;> first | exact hk _ _ _ _ h ⟨fun _ => Nat.le_refl _, Nat.le_refl _, Nat.le_refl _, rfl, rfl⟩ | (cases h; done)
  case astore_n => rcases st with _ | ⟨x | x | x, st⟩ <;> first | exact hk _ _ _ _ h ⟨fun _ => Nat.le_refl _, Nat.le_refl _, Nat.le_refl _, rfl, rfl⟩ | (cases h; done)
  case istore => rcases st with _ | ⟨x | x | x, st⟩ <;> first | exact hk _ _ _ _ h ⟨fun _ => Nat.le_refl _, Nat.le_refl _, Nat.le_refl _, rfl, rfl⟩ | (cases h; done)
  case istore_n => rcases st with _ | ⟨x | x | x, st⟩ <;> first | exact hk _ _ _ _ h ⟨fun _ => Nat.le_refl _, Nat.le_refl _, Nat.le_refl _, rfl, rfl⟩ | (cases h; done)
  case lstore => rcases st with _ | ⟨x | x | x, st⟩ <;> first | exact hk _ _ _ _ h ⟨fun _ => Nat.le_refl _, Nat.le_refl _, Nat.le_refl _, rfl, rfl⟩ | (cases h; done)
  case lstore_n => rcases st with _ | ⟨x | x | x, st⟩ <;> first | exact hk _ _ _ _ h ⟨fun _ => Nat.le_refl _, Nat.le_refl _, Nat.le_refl _, rfl, rfl⟩ | (cases h; done)
  case ineg => rcases st with _ | ⟨x | x | x, st⟩ <;> first | exact hk _ _ _ _ h ⟨fun _ => Nat.le_refl _, Nat.le_refl _, Nat.le_refl _, rfl, rfl⟩ | (cases h; done)
  case i2l => rcases st with _ | ⟨x | x | x, st⟩ <;> first | exact hk _ _ _ _ h ⟨fun _ => Nat.le_refl _, Nat.le_refl _, Nat.le_refl _, rfl, rfl⟩ | (cases h; done)
  case l2i => rcases st with _ | ⟨x | x | x, st⟩ <;> first | exact hk _ _ _ _ h ⟨fun _ => Nat.le_refl _, Nat.le_refl _, Nat.le_refl _, rfl, rfl⟩ | (cases h; done)
  case i2b => rcases st with _ | ⟨x | x | x, st⟩ <;> first | exact hk _ _ _ _ h ⟨fun _ => Nat.le_refl _, Nat.le_refl _, Nat.le_refl _, rfl, rfl⟩ | (cases h; done)
  case dup => rcases st with _ | ⟨x | x | x, st⟩ <;> first | exact hk _ _ _ _ h ⟨fun _ => Nat.le_refl _, Nat.le_refl _, Nat.le_refl _, rfl, rfl⟩ | (cases h; done)
  case pop => rcases st with _ | ⟨x | x | x, st⟩ <;> first | exact hk _ _ _ _ h ⟨fun _ => Nat.le_refl _, Nat.le_refl _, Nat.le_refl _, rfl, rfl⟩ | (cases h; done)
  case iconst => exact hk _ _ _ _ h ⟨fun _ => Nat.le_refl _, Nat.le_refl _, Nat.le_refl _, rfl, rfl⟩
  case bipush => exact hk _ _ _ _ h ⟨fun _ => Nat.le_refl _, Nat.le_refl _, Nat.le_refl _, rfl, rfl⟩
  case sipush => exact hk _ _ _ _ h ⟨fun _ => Nat.le_refl _, Nat.le_refl _, Nat.le_refl _, rfl, rfl⟩
  case lconst => exact hk _ _ _ _ h ⟨fun _ => Nat.le_refl _, Nat.le_refl _, Nat.le_refl _, rfl, rfl⟩
  case aconst_null => exact hk _ _ _ _ h ⟨fun _ => Nat.le_refl _, Nat.le_refl _, Nat.le_refl _, rfl, rfl⟩
  case goto => exact hk _ _ _ _ h ⟨fun _ => Nat.le_refl _, Nat.le_refl _, Nat.le_refl _, rfl, rfl⟩
  case ldc => rcases cv with _ | ⟨x, cv⟩ <;> first | exact hk _ _ _ _ h ⟨fun _ => Nat.le_refl _, Nat.le_refl _, Nat.le_refl _, rfl, rfl⟩ | (cases h; done)
  case ldc_w => rcases cv with _ | ⟨x, cv⟩ <;> first | exact hk _ _ _ _ h ⟨fun _ => Nat.le_refl _, Nat.le_refl _, Nat.le_refl _, rfl, rfl⟩ | (cases h; done)
  case ldc2_w => rcases cv with _ | ⟨x, cv⟩ <;> first | exact hk _ _ _ _ h ⟨fun _ => Nat.le_refl _, Nat.le_refl _, Nat.le_refl _, rfl, rfl⟩ | (cases h; done)
  case iadd => rcases st with _ | ⟨x | x | x, _ | ⟨y | y | y, st⟩⟩ <;> first | exact hk _ _ _ _ h ⟨fun _ => Nat.le_refl _, Nat.le_refl _, Nat.le_refl _, rfl, rfl⟩ | (cases h; done)
  case isub => rcases st with _ | ⟨x | x | x, _ | ⟨y | y | y, st⟩⟩ <;> first | exact hk _ _ _ _ h ⟨fun _ => Nat.le_refl _, Nat.le_refl _, Nat.le_refl _, rfl, rfl⟩ | (cases h; done)
  case imul => rcases st with _ | ⟨x | x | x, _ | ⟨y | y | y, st⟩⟩ <;> first | exact hk _ _ _ _ h ⟨fun _ => Nat.le_refl _, Nat.le_refl _, Nat.le_refl _, rfl, rfl⟩ | (cases h; done)
  case iand => rcases st with _ | ⟨x | x | x, _ | ⟨y | y | y, st⟩⟩ <;> first | exact hk _ _ _ _ h ⟨fun _ => Nat.le_refl _, Nat.le_refl _, Nat.le_refl _, rfl, rfl⟩ | (cases h; done)
  case ior => rcases st with _ | ⟨x | x | x, _ | ⟨y | y | y, st⟩⟩ <;> first | exact hk _ _ _ _ h ⟨fun _ => Nat.le_refl _, Nat.le_refl _, Nat.le_refl _, rfl, rfl⟩ | (cases h; done)
  case ixor => rcases st with _ | ⟨x | x | x, _ | ⟨y | y | y, st⟩⟩ <;> first | exact hk _ _ _ _ h ⟨fun _ => Nat.le_refl _, Nat.le_refl _, Nat.le_refl _, rfl, rfl⟩ | (cases h; done)
  case ishl => rcases st with _ | ⟨x | x | x, _ | ⟨y | y | y, st⟩⟩ <;> first | exact hk _ _ _ _ h ⟨fun _ => Nat.le_refl _, Nat.le_refl _, Nat.le_refl _, rfl, rfl⟩ | (cases h; done)
  case ishr => rcases st with _ | ⟨x | x | x, _ | ⟨y | y | y, st⟩⟩ <;> first | exact hk _ _ _ _ h ⟨fun _ => Nat.le_refl _, Nat.le_refl _, Nat.le_refl _, rfl, rfl⟩ | (cases h; done)
  case ladd => rcases st with _ | ⟨x | x | x, _ | ⟨y | y | y, st⟩⟩ <;> first | exact hk _ _ _ _ h ⟨fun _ => Nat.le_refl _, Nat.le_refl _, Nat.le_refl _, rfl, rfl⟩ | (cases h; done)
  case lsub => rcases st with _ | ⟨x | x | x, _ | ⟨y | y | y, st⟩⟩ <;> first | exact hk _ _ _ _ h ⟨fun _ => Nat.le_refl _, Nat.le_refl _, Nat.le_refl _, rfl, rfl⟩ | (cases h; done)
  case lmul => rcases st with _ | ⟨x | x | x, _ | ⟨y | y | y, st⟩⟩ <;> first | exact hk _ _ _ _ h ⟨fun _ => Nat.le_refl _, Nat.le_refl _, Nat.le_refl _, rfl, rfl⟩ | (cases h; done)
  case land => rcases st with _ | ⟨x | x | x, _ | ⟨y | y | y, st⟩⟩ <;> first | exact hk _ _ _ _ h ⟨fun _ => Nat.le_refl _, Nat.le_refl _, Nat.le_refl _, rfl, rfl⟩ | (cases h; done)
  case lor => rcases st with _ | ⟨x | x | x, _ | ⟨y | y | y, st⟩⟩ <;> first | exact hk _ _ _ _ h ⟨fun _ => Nat.le_refl _, Nat.le_refl _, Nat.le_refl _, rfl, rfl⟩ | (cases h; done)
  case lshl => rcases st with _ | ⟨x | x | x, _ | ⟨y | y | y, st⟩⟩ <;> first | exact hk _ _ _ _ h ⟨fun _ => Nat.le_refl _, Nat.le_refl _, Nat.le_refl _, rfl, rfl⟩ | (cases h; done)
  case lushr => rcases st with _ | ⟨x | x | x, _ | ⟨y | y | y, st⟩⟩ <;> first | exact hk _ _ _ _ h ⟨fun _ => Nat.le_refl _, Nat.le_refl _, Nat.le_refl _, rfl, rfl⟩ | (cases h; done)
  case lcmp => rcases st with _ | ⟨x | x | x, _ | ⟨y | y | y, st⟩⟩ <;> first | exact hk _ _ _ _ h ⟨fun _ => Nat.le_refl _, Nat.le_refl _, Nat.le_refl _, rfl, rfl⟩ | (cases h; done)
  case dup2 => rcases st with _ | ⟨x | x | x, _ | ⟨y | y | y, st⟩⟩ <;> first | exact hk _ _ _ _ h ⟨fun _ => Nat.le_refl _, Nat.le_refl _, Nat.le_refl _, rfl, rfl⟩ | (cases h; done)
  case idiv => rcases st with _ | ⟨x | x | x, _ | ⟨y | y | y, st⟩⟩ <;> first | exact zel h (fun h => nomatch h) (fun h => hk _ _ _ _ h ⟨fun _ => Nat.le_refl _, Nat.le_refl _, Nat.le_refl _, rfl, rfl⟩) | (cases h; done)
  case irem => rcases st with _ | ⟨x | x | x, _ | ⟨y | y | y, st⟩⟩ <;> first | exact zel h (fun h => nomatch h) (fun h => hk _ _ _ _ h ⟨fun _ => Nat.le_refl _, Nat.le_refl _, Nat.le_refl _, rfl, rfl⟩) | (cases h; done)
  case ldiv => rcases st with _ | ⟨x | x | x, _ | ⟨y | y | y, st⟩⟩ <;> first | exact zel h (fun h => nomatch h) (fun h => hk _ _ _ _ h ⟨fun _ => Nat.le_refl _, Nat.le_refl _, Nat.le_refl _, rfl, rfl⟩) | (cases h; done)
  case lrem => rcases st with _ | ⟨x | x | x, _ | ⟨y | y | y, st⟩⟩ <;> first | exact zel h (fun h => nomatch h) (fun h => hk _ _ _ _ h ⟨fun _ => Nat.le_refl _, Nat.le_refl _, Nat.le_refl _, rfl, rfl⟩) | (cases h; done)
  case ifCond => rcases st with _ | ⟨x | x | x, st⟩ <;> first | exact br _ _ _ _ _ (fun h => hk _ _ _ _ h ⟨fun _ => Nat.le_refl _, Nat.le_refl _, Nat.le_refl _, rfl, rfl⟩) (fun h => hk _ _ _ _ h ⟨fun _ => Nat.le_refl _, Nat.le_refl _, Nat.le_refl _, rfl, rfl⟩) h | (cases h; done)
  case if_icmp => rcases st with _ | ⟨x | x | x, _ | ⟨y | y | y, st⟩⟩ <;> first | exact br _ _ _ _ _ (fun h => hk _ _ _ _ h ⟨fun _ => Nat.le_refl _, Nat.le_refl _, Nat.le_refl _, rfl, rfl⟩) (fun h => hk _ _ _ _ h ⟨fun _ => Nat.le_refl _, Nat.le_refl _, Nat.le_refl _, rfl, rfl⟩) h | (cases h; done)
  case if_acmp => rename_i c _; rcases st with _ | ⟨x | x | ⟨t, x⟩, _ | ⟨y | y | ⟨t2, y⟩, st⟩⟩ <;> first | (cases h; done) | (cases c <;> exact zbl h (fun h => zel h (fun h => hk _ _ _ _ h ⟨fun _ => Nat.le_refl _, Nat.le_refl _, Nat.le_refl _, rfl, rfl⟩) (fun h => hk _ _ _ _ h ⟨fun _ => Nat.le_refl _, Nat.le_refl _, Nat.le_refl _, rfl, rfl⟩)))
  case ifnull => rcases st with _ | ⟨x | x | ⟨t, _ | x⟩, st⟩ <;> first | exact hk _ _ _ _ h ⟨fun _ => Nat.le_refl _, Nat.le_refl _, Nat.le_refl _, rfl, rfl⟩ | (cases h; done)
  case ifnonnull => rcases st with _ | ⟨x | x | ⟨t, _ | x⟩, st⟩ <;> first | exact hk _ _ _ _ h ⟨fun _ => Nat.le_refl _, Nat.le_refl _, Nat.le_refl _, rfl, rfl⟩ | (cases h; done)
  case tableswitch => rcases st with _ | ⟨x | x | x, st⟩ <;> rcases ax with _ | ⟨d, ts⟩ <;> first | (cases h; done) | exact sw _ _ _ _ _ (fun t => (fun h => hk _ _ _ _ h ⟨fun _ => Nat.le_refl _, Nat.le_refl _, Nat.le_refl _, rfl, rfl⟩)) (fun h => hk _ _ _ _ h ⟨fun _ => Nat.le_refl _, Nat.le_refl _, Nat.le_refl _, rfl, rfl⟩) h
  case getfield => rcases st with _ | ⟨x | x | ⟨t, _ | x⟩, st⟩ <;> first | (cases h; done) | exact zbl h (fun h => zgf_mo (fun v => (fun h => hk _ _ _ _ h ⟨fun _ => Nat.le_refl _, Nat.le_refl _, Nat.le_refl _, rfl, rfl⟩)) h)
  case putfield => rcases st with _ | ⟨v, _ | ⟨x | x | ⟨t, _ | x⟩, st⟩⟩ <;> first | (cases h; done) | exact zbl h (fun h => zpf_mo (fun M1 h hm => hk _ _ _ _ h hm) h)
  case getstatic => rcases ax with _ | ⟨a, _ | ⟨b, ax⟩⟩ <;> first | (cases h; done) | exact hk _ _ _ _ h ⟨fun _ => Nat.le_refl _, Nat.le_refl _, Nat.le_refl _, rfl, rfl⟩
  case iaload => rcases st with _ | ⟨x | x | x, _ | ⟨y | y | ⟨t, _ | y⟩, st⟩⟩ <;> first | (cases h; done) | exact zml h (fun h => zel h (fun h => hk _ _ _ _ h ⟨fun _ => Nat.le_refl _, Nat.le_refl _, Nat.le_refl _, rfl, rfl⟩) (fun h => nomatch h)) (fun h => nomatch h) (fun h => nomatch h) (fun h => nomatch h) (fun h => nomatch h) (fun h => zel h (fun h => hk _ _ _ _ h ⟨fun _ => Nat.le_refl _, Nat.le_refl _, Nat.le_refl _, rfl, rfl⟩) (fun h => nomatch h)) (fun h => nomatch h)
  case baload => rcases st with _ | ⟨x | x | x, _ | ⟨y | y | ⟨t, _ | y⟩, st⟩⟩ <;> first | (cases h; done) | exact zml h (fun h => nomatch h) (fun h => nomatch h) (fun h => zel h (fun h => hk _ _ _ _ h ⟨fun _ => Nat.le_refl _, Nat.le_refl _, Nat.le_refl _, rfl, rfl⟩) (fun h => nomatch h)) (fun h => zel h (fun h => hk _ _ _ _ h ⟨fun _ => Nat.le_refl _, Nat.le_refl _, Nat.le_refl _, rfl, rfl⟩) (fun h => nomatch h)) (fun h => nomatch h) (fun h => nomatch h) (fun h => nomatch h)
  case laload => rcases st with _ | ⟨x | x | x, _ | ⟨y | y | ⟨t, _ | y⟩, st⟩⟩ <;> first | (cases h; done) | exact zml h (fun h => nomatch h) (fun h => zel h (fun h => hk _ _ _ _ h ⟨fun _ => Nat.le_refl _, Nat.le_refl _, Nat.le_refl _, rfl, rfl⟩) (fun h => nomatch h)) (fun h => nomatch h) (fun h => nomatch h) (fun h => nomatch h) (fun h => nomatch h) (fun h => nomatch h)
  case aaload => rcases st with _ | ⟨x | x | x, _ | ⟨y | y | ⟨t, _ | y⟩, st⟩⟩ <;> first | (cases h; done) | exact zml h (fun h => nomatch h) (fun h => nomatch h) (fun h => nomatch h) (fun h => nomatch h) (fun h => zel h (fun h => hk _ _ _ _ h ⟨fun _ => Nat.le_refl _, Nat.le_refl _, Nat.le_refl _, rfl, rfl⟩) (fun h => nomatch h)) (fun h => nomatch h) (fun h => zel h (fun h => hk _ _ _ _ h ⟨fun _ => Nat.le_refl _, Nat.le_refl _, Nat.le_refl _, rfl, rfl⟩) (fun h => nomatch h))
  case iastore => rcases st with _ | ⟨v | v | v, _ | ⟨x | x | x, _ | ⟨y | y | ⟨t, _ | y⟩, st⟩⟩⟩ <;> first | (cases h; done) | exact zml h (fun h => zel h (fun h => hk _ _ _ _ h ⟨fun _ => Nat.le_refl _, Nat.le_refl _, Nat.le_refl _, rfl, rfl⟩) (fun h => nomatch h)) (fun h => nomatch h) (fun h => nomatch h) (fun h => nomatch h) (fun h => nomatch h) (fun h => nomatch h) (fun h => nomatch h)
  case bastore => rcases st with _ | ⟨v | v | v, _ | ⟨x | x | x, _ | ⟨y | y | ⟨t, _ | y⟩, st⟩⟩⟩ <;> first | (cases h; done) | exact zml h (fun h => nomatch h) (fun h => nomatch h) (fun h => zel h (fun h => hk _ _ _ _ h ⟨fun _ => Nat.le_refl _, Nat.le_refl _, Nat.le_refl _, rfl, rfl⟩) (fun h => nomatch h)) (fun h => zel h (fun h => hk _ _ _ _ h ⟨fun _ => Nat.le_refl _, Nat.le_refl _, Nat.le_refl _, rfl, rfl⟩) (fun h => nomatch h)) (fun h => nomatch h) (fun h => nomatch h) (fun h => nomatch h)
  case lastore => rcases st with _ | ⟨v | v | v, _ | ⟨x | x | x, _ | ⟨y | y | ⟨t, _ | y⟩, st⟩⟩⟩ <;> first | (cases h; done) | exact zml h (fun h => nomatch h) (fun h => zel h (fun h => hk _ _ _ _ h ⟨fun _ => Nat.le_refl _, Nat.le_refl _, Nat.le_refl _, rfl, rfl⟩) (fun h => nomatch h)) (fun h => nomatch h) (fun h => nomatch h) (fun h => nomatch h) (fun h => nomatch h) (fun h => nomatch h)
  case aastore => rcases st with _ | ⟨v | v | ⟨t2, _ | v⟩, _ | ⟨x | x | x, _ | ⟨y | y | ⟨t, _ | y⟩, st⟩⟩⟩ <;> first | (cases h; done) | exact zbl h (fun h => zml h (fun h => nomatch h) (fun h => nomatch h) (fun h => nomatch h) (fun h => nomatch h) (fun h => zel h (fun h => hk _ _ _ _ h ⟨fun _ => Nat.le_refl _, Nat.le_refl _, Nat.le_refl _, rfl, rfl⟩) (fun h => nomatch h)) (fun h => nomatch h) (fun h => nomatch h))
  case arraylength => rcases st with _ | ⟨x | x | ⟨t, _ | x⟩, st⟩ <;> first | (cases h; done) | exact zml h (fun h => hk _ _ _ _ h ⟨fun _ => Nat.le_refl _, Nat.le_refl _, Nat.le_refl _, rfl, rfl⟩) (fun h => hk _ _ _ _ h ⟨fun _ => Nat.le_refl _, Nat.le_refl _, Nat.le_refl _, rfl, rfl⟩) (fun h => hk _ _ _ _ h ⟨fun _ => Nat.le_refl _, Nat.le_refl _, Nat.le_refl _, rfl, rfl⟩) (fun h => hk _ _ _ _ h ⟨fun _ => Nat.le_refl _, Nat.le_refl _, Nat.le_refl _, rfl, rfl⟩) (fun h => hk _ _ _ _ h ⟨fun _ => Nat.le_refl _, Nat.le_refl _, Nat.le_refl _, rfl, rfl⟩) (fun h => hk _ _ _ _ h ⟨fun _ => Nat.le_refl _, Nat.le_refl _, Nat.le_refl _, rfl, rfl⟩) (fun h => hk _ _ _ _ h ⟨fun _ => Nat.le_refl _, Nat.le_refl _, Nat.le_refl _, rfl, rfl⟩)
  case new => exact zbl h (fun h => hk _ _ _ _ h (zmo_new M _ _))
  case newarray => rcases st with _ | ⟨x | x | x, st⟩ <;> first | (cases h; done) | exact zel h (fun h => hk _ _ _ _ h (zmo_newl M _ _ _ _)) (fun h => nomatch h)
  case anewarray => rcases st with _ | ⟨x | x | x, st⟩ <;> first | (cases h; done) | exact zel h (fun h => hk _ _ _ _ h (zmo_newl M _ _ _ _)) (fun h => nomatch h)
  case invokevirtual => exact ziv_mo (fun v M1 h hm => hk _ _ _ _ h hm) (fun a b c h => hc a b c h) h
  case invokespecial => exact ziv_mo (fun v M1 h hm => hk _ _ _ _ h hm) (fun a b c h => hc a b c h) h
  case invokestatic => exact ziv_mo (fun v M1 h hm => hk _ _ _ _ h hm) (fun a b c h => hc a b c h) h
  case ireturn => rcases st with _ | ⟨x | x | x, _ | ⟨y, st⟩⟩ <;> rcases ax with _ | ⟨a, ax⟩ <;> first | exact hr _ _ h (zmo_rf M) | (cases h; done)
  case lreturn => rcases st with _ | ⟨x | x | x, _ | ⟨y, st⟩⟩ <;> first | exact hr _ _ h (zmo_rf M) | (cases h; done)
  case return_ => rcases st with _ | ⟨x, st⟩ <;> first | exact hr _ _ h (zmo_rf M) | (cases h; done)
  all_goals (first | (cases h; done))
theorem zex_mo : ∀ {n d : Nat} {tab : ZT} {pc : Nat} {ls : ZL} {st : List ZV} {M : ZM} {r : ZR}, zex zG d tab pc ls st M n = some r → zmo M r.2 := by
  intro n
  induction n with
  | zero => intro d tab pc ls st M r h; cases h
  | succ n ih =>
    intro d tab pc ls st M r h
    unfold zex at h
    cases e : zfd tab pc with
    | none => rw [e] at h; cases h
    | some q =>
      rw [e] at h
      refine zst_mo (k := fun pc ls st M => zex zG d tab pc ls st M n) (fun pc ls st M1 h hm => zmo_tr hm (ih h)) (fun v M1 h hm => by cases h; exact hm) ?_ h
      intro mi as rest h
      cases d with
      | zero => cases h
      | succ d =>
        simp only [zcd] at h
        cases e2 : zG mi with
        | none => rw [e2] at h; cases h
        | some q2 =>
          obtain ⟨tab2, nl⟩ := q2
          rw [e2] at h
          simp only [zcg] at h
          refine zbl h ?_
          intro h
          cases e3 : zex zG d tab2 0 (zen nl as) [] M n with
          | none => rw [e3] at h; cases h
          | some q3 =>
            obtain ⟨rv, M2⟩ := q3
            rw [e3] at h
            simp only [zcall] at h
            exact zmo_tr (ih e3) (ih h)
