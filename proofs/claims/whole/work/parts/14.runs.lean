def znl : List (ZT × Nat) → Nat → Option (ZT × Nat)
  | [], _ => none
  | a :: _, 0 => some a
  | _ :: l, n + 1 => znl l n
/-- the first list says less than the second -/
def zle : ZL → ZL → Prop
  | [], [] => True
  | a :: l, b :: l' => (a = none ∨ a = b) ∧ zle l l'
  | _, _ => False
theorem zle_rf : ∀ l : ZL, zle l l
  | [] => trivial
  | _ :: l => ⟨.inr rfl, zle_rf l⟩
theorem zle_nt : ∀ {l l' : ZL} {i : Nat} {v : ZV}, zle l l' → znt l i = some v → znt l' i = some v
  | [], _, _, _, _, h => by simp [znt] at h
  | a :: l, [], _, _, h, _ => h.elim
  | a :: l, b :: l', 0, v, h, hv => by
    simp only [znt] at hv ⊢
    rcases h.1 with e | e
    · rw [e] at hv; cases hv
    · rw [← e]; exact hv
  | a :: l, b :: l', i + 1, v, h, hv => zle_nt (l := l) (l' := l') h.2 hv
theorem zle_se : ∀ {l l' : ZL} (i : Nat) (x : Option ZV), zle l l' → zle (zse l i x) (zse l' i x)
  | [], [], _, _, _ => trivial
  | [], _ :: _, _, _, h => h.elim
  | _ :: _, [], _, _, h => h.elim
  | _ :: _, _ :: _, 0, _, h => ⟨.inr rfl, h.2⟩
  | _ :: _, _ :: _, i + 1, x, h => ⟨h.1, zle_se i x h.2⟩
theorem zle_sn : ∀ {l l' : ZL} (i : Nat), zle l l' → znt l i = none → zle l (zse l' i none)
  | [], [], _, _, _ => trivial
  | [], _ :: _, _, h, _ => h.elim
  | _ :: _, [], _, h, _ => h.elim
  | a :: _, _ :: _, 0, h, e => ⟨.inl (by simpa [znt] using e), h.2⟩
  | _ :: _, _ :: _, i + 1, h, e => ⟨h.1, zle_sn i h.2 (by simpa [znt] using e)⟩
theorem zle_cl {l l' : ZL} (i : Nat) (h : zle l l') : zle (zcl l i) (zcl l' i) := by
  cases i with
  | zero => exact h
  | succ j =>
    simp only [zcl]
    cases hv : znt l j with
    | none =>
      cases hw : znt l' j with
      | none => exact h
      | some w =>
        rcases w with x | x | x
        · exact h
        · exact zle_sn j h hv
        · exact h
    | some v =>
      rw [zle_nt h hv]
      rcases v with x | x | x
      · exact h
      · exact zle_se j none h
      · exact h

theorem zse_len : ∀ (l : ZL) (i : Nat) (x : Option ZV), (zse l i x).length = l.length
  | [], _, _ => rfl
  | _ :: _, 0, _ => rfl
  | _ :: l, i + 1, x => by simp [zse, zse_len l i x]
theorem zim {r : ZR} {c : Prop} [Decidable c] {a a' b b' : Option ZR} (ha : a = some r → a' = some r) (hb : b = some r → b' = some r) (h : (if c then a else b) = some r) : (if c then a' else b') = some r := by
  by_cases e : c
  · rw [if_pos e] at h ⊢; exact ha h
  · rw [if_neg e] at h ⊢; exact hb h
theorem zbm_mono {r : ZR} {b : Bool} {a a' : Option ZR} (ha : a = some r → a' = some r) (h : zbm b a none = some r) : zbm b a' none = some r := by
  cases b with
  | true => exact ha h
  | false => cases h
theorem zem_mono {r : ZR} {q : Nat} {a0 a1 a2 a3 a4 a5 a6 b0 b1 b2 b3 b4 b5 b6 : Option ZR} (h0 : a0 = some r → b0 = some r) (h1 : a1 = some r → b1 = some r) (h2 : a2 = some r → b2 = some r) (h3 : a3 = some r → b3 = some r) (h4 : a4 = some r → b4 = some r) (h5 : a5 = some r → b5 = some r) (h6 : a6 = some r → b6 = some r) (h : zem q a0 a1 a2 a3 a4 a5 a6 none = some r) : zem q b0 b1 b2 b3 b4 b5 b6 none = some r := by
  match q, h with
  | 0, h => exact h0 h
  | 1, h => exact h1 h
  | 2, h => exact h2 h
  | 3, h => exact h3 h
  | 4, h => exact h4 h
  | 5, h => exact h5 h
  | 6, h => exact h6 h
  | _ + 7, h => exact h
theorem zgf_mono {r : ZR} {M : ZM} {ax : List Nat} {i : Nat} {f f' : ZV → Option ZR} (hf : ∀ v, f v = some r → f' v = some r) (h : zgf M ax i f none = some r) : zgf M ax i f' none = some r := by
  unfold zgf at h ⊢
  split at h
  · split at h <;> first | exact hf _ h | cases h
  · cases h
theorem zpf_mono {r : ZR} {M : ZM} {ax : List Nat} {i : Nat} {v : ZV} {f f' : ZM → Option ZR} (hf : ∀ v, f v = some r → f' v = some r) (h : zpf M ax i v f none = some r) : zpf M ax i v f' none = some r := by
  unfold zpf at h ⊢
  split at h
  · split at h
    · exact hf _ h
    · exact zbm_mono (hf _) h
    · exact hf _ h
    · exact zbm_mono (hf _) h
    · split at h
      · exact hf _ h
      · exact zbm_mono (hf _) h
    · cases h
  · cases h
theorem ziv_mono {r : ZR} {M : ZM} {ax : List Nat} {st : List ZV} {f f' : List ZV → ZM → Option ZR} {g g' : Nat → List ZV → List ZV → Option ZR} (hf : ∀ v M, f v M = some r → f' v M = some r) (hg : ∀ a b c, g a b c = some r → g' a b c = some r) (h : ziv M ax st f g none = some r) : ziv M ax st f' g' none = some r := by
  unfold ziv at h ⊢
  split at h
  · split at h
    · exact zbm_mono (hg _ _ _) h
    · cases h
  · split at h
    · exact zbm_mono (hg _ _ _) h
    · cases h
  · split at h
    · exact zbm_mono (hf _ _) h
    · cases h
  · split at h
    · exact zbm_mono (zem_mono (zem_mono (zim (hf _ _) (fun h => h)) (fun h => h) (fun h => h) (fun h => h) (fun h => h) (fun h => h) (fun h => h)) (fun h => h) (fun h => h) (fun h => h) (fun h => h) (fun h => h) (fun h => h)) h
    · cases h
  · split at h
    · exact zbm_mono (hf _ _) h
    · cases h
  · split at h
    · exact zbm_mono (zim (hf _ _) (hf _ _)) h
    · cases h
  · split at h
    · exact zbm_mono (hf _ _) h
    · cases h
  · split at h
    · exact zbm_mono (hf _ _) h
    · cases h
  · split at h
    · exact zbm_mono (hf _ _) h
    · cases h
  · cases h
section ZMONO
variable {k k' : Nat → ZL → List ZV → ZM → Option ZR} {kr : Option ZV → ZM → Option ZR} {kc kc' : Nat → List ZV → List ZV → Option ZR} {r : ZR}
theorem zld_mono {β : Type} {o o' : Option ZV} {f f' : ZV → Option β} {r : β} (ho : ∀ v, o = some v → o' = some v) (hf : ∀ v, f v = some r → f' v = some r) (h : zld o f none = some r) : zld o' f' none = some r := by
  cases e : o with
  | none => rw [e] at h; cases h
  | some v => rw [e] at h; rw [ho v e]; exact hf v h
set_option maxHeartbeats 4000000 in
theorem zst_mono (hk : ∀ pc ls ls' st M, zle ls ls' → k pc ls st M = some r → k' pc ls' st M = some r) (hc : ∀ mi as rest, kc mi as rest = some r → kc' mi as rest = some r) {e : ZE} {pc : Nat} {ls ls' : ZL} {st : List ZV} {M : ZM} (hl : zle ls ls') (h : zst e pc ls st M k kr kc none = some r) : zst e pc ls' st M k' kr kc' none = some r := by
  obtain ⟨ins, len, ax, cv⟩ := e
  have hle := hl
  have sw : ∀ (x : Int) (cv : List Int) (ts : List Nat) (f f' : Nat → Option ZR) (d d' : Option ZR), (∀ t, f t = some r → f' t = some r) → (d = some r → d' = some r) → zsw x cv ts f d = some r → zsw x cv ts f' d' = some r := by
    intro x cv
    induction cv with
    | nil => intro ts f f' d d' hf hd h; exact hd h
    | cons v vs ih =>
      intro ts f f' d d' hf hd h
      cases ts with
      | nil => exact hd h
      | cons t ts =>
        simp only [zsw] at h ⊢
        split at h
        · next e => rw [if_pos e]; exact hf t h
        · next e => rw [if_neg e]; exact ih ts f f' d d' hf hd h
  have br : ∀ (c : ClassFile.Cond) (x y : Int) (a a' b b' : Option ZR), (a = some r → a' = some r) → (b = some r → b' = some r) → zbr c x y a b = some r → zbr c x y a' b' = some r := by
    intro c x y a a' b b' ha hb h
    cases c <;> simp only [zbr] at h ⊢ <;> split at h <;> (next e => first | (rw [if_pos e]; first | exact ha h | exact hb h) | (rw [if_neg e]; first | exact ha h | exact hb h))
  cases ins
  case aload => exact zld_mono (fun v hv => zle_nt hl hv) (fun v hv => by rcases v with x | x | x <;> first | exact hk _ _ _ _ _ hl hv | exact hv) h
  case aload_n => exact zld_mono (fun v hv => zle_nt hl hv) (fun v hv => by rcases v with x | x | x <;> first | exact hk _ _ _ _ _ hl hv | exact hv) h
  case iload => exact zld_mono (fun v hv => zle_nt hl hv) (fun v hv => by rcases v with x | x | x <;> first | exact hk _ _ _ _ _ hl hv | exact hv) h
  case iload_n => exact zld_mono (fun v hv => zle_nt hl hv) (fun v hv => by rcases v with x | x | x <;> first | exact hk _ _ _ _ _ hl hv | exact hv) h
  case lload => exact zld_mono (fun v hv => zle_nt hl hv) (fun v hv => by rcases v with x | x | x <;> first | exact hk _ _ _ _ _ hl hv | exact hv) h
  case lload_n => exact zld_mono (fun v hv => zle_nt hl hv) (fun v hv => by rcases v with x | x | x <;> first | exact hk _ _ _ _ _ hl hv | exact hv) h
  case iinc => exact zld_mono (fun v hv => zle_nt hl hv) (fun v hv => by rcases v with x | x | x <;> first | exact hk _ _ _ _ _ (zle_se _ _ hl) hv | exact hv) h
  case astore => rcases st with _ | ⟨x | x | x, st⟩ <;> first | exact hk _ _ _ _ _ (zle_se _ _ (zle_cl _ hl)) h | exact h
  case astore_n => rcases st with _ | ⟨x | x | x, st⟩ <;> first | exact hk _ _ _ _ _ (zle_se _ _ (zle_cl _ hl)) h | exact h
  case istore => rcases st with _ | ⟨x | x | x, st⟩ <;> first | exact hk _ _ _ _ _ (zle_se _ _ (zle_cl _ hl)) h | exact h
  case istore_n => rcases st with _ | ⟨x | x | x, st⟩ <;> first | exact hk _ _ _ _ _ (zle_se _ _ (zle_cl _ hl)) h | exact h
  case lstore => rcases st with _ | ⟨x | x | x, st⟩ <;> first | exact hk _ _ _ _ _ (zle_se _ _ (zle_se _ _ (zle_cl _ hl))) h | exact h
  case lstore_n => rcases st with _ | ⟨x | x | x, st⟩ <;> first | exact hk _ _ _ _ _ (zle_se _ _ (zle_se _ _ (zle_cl _ hl))) h | exact h
  case iconst => exact hk _ _ _ _ _ hl h
  case bipush => exact hk _ _ _ _ _ hl h
  case sipush => exact hk _ _ _ _ _ hl h
  case lconst => exact hk _ _ _ _ _ hl h
  case aconst_null => exact hk _ _ _ _ _ hl h
  case goto => exact hk _ _ _ _ _ hl h
  case new => exact zbm_mono (hk _ _ _ _ _ hl) h
  case ldc => rcases cv with _ | ⟨x, cv⟩ <;> first | exact hk _ _ _ _ _ hl h | exact h
  case ldc_w => rcases cv with _ | ⟨x, cv⟩ <;> first | exact hk _ _ _ _ _ hl h | exact h
  case ldc2_w => rcases cv with _ | ⟨x, cv⟩ <;> first | exact hk _ _ _ _ _ hl h | exact h
  case iadd => rcases st with _ | ⟨x | x | x, _ | ⟨y | y | y, st⟩⟩ <;> first | exact hk _ _ _ _ _ hl h | exact h
  case isub => rcases st with _ | ⟨x | x | x, _ | ⟨y | y | y, st⟩⟩ <;> first | exact hk _ _ _ _ _ hl h | exact h
  case imul => rcases st with _ | ⟨x | x | x, _ | ⟨y | y | y, st⟩⟩ <;> first | exact hk _ _ _ _ _ hl h | exact h
  case iand => rcases st with _ | ⟨x | x | x, _ | ⟨y | y | y, st⟩⟩ <;> first | exact hk _ _ _ _ _ hl h | exact h
  case ior => rcases st with _ | ⟨x | x | x, _ | ⟨y | y | y, st⟩⟩ <;> first | exact hk _ _ _ _ _ hl h | exact h
  case ixor => rcases st with _ | ⟨x | x | x, _ | ⟨y | y | y, st⟩⟩ <;> first | exact hk _ _ _ _ _ hl h | exact h
  case ishl => rcases st with _ | ⟨x | x | x, _ | ⟨y | y | y, st⟩⟩ <;> first | exact hk _ _ _ _ _ hl h | exact h
  case ishr => rcases st with _ | ⟨x | x | x, _ | ⟨y | y | y, st⟩⟩ <;> first | exact hk _ _ _ _ _ hl h | exact h
  case ladd => rcases st with _ | ⟨x | x | x, _ | ⟨y | y | y, st⟩⟩ <;> first | exact hk _ _ _ _ _ hl h | exact h
  case lsub => rcases st with _ | ⟨x | x | x, _ | ⟨y | y | y, st⟩⟩ <;> first | exact hk _ _ _ _ _ hl h | exact h
  case lmul => rcases st with _ | ⟨x | x | x, _ | ⟨y | y | y, st⟩⟩ <;> first | exact hk _ _ _ _ _ hl h | exact h
  case land => rcases st with _ | ⟨x | x | x, _ | ⟨y | y | y, st⟩⟩ <;> first | exact hk _ _ _ _ _ hl h | exact h
  case lor => rcases st with _ | ⟨x | x | x, _ | ⟨y | y | y, st⟩⟩ <;> first | exact hk _ _ _ _ _ hl h | exact h
  case lshl => rcases st with _ | ⟨x | x | x, _ | ⟨y | y | y, st⟩⟩ <;> first | exact hk _ _ _ _ _ hl h | exact h
  case lushr => rcases st with _ | ⟨x | x | x, _ | ⟨y | y | y, st⟩⟩ <;> first | exact hk _ _ _ _ _ hl h | exact h
  case lcmp => rcases st with _ | ⟨x | x | x, _ | ⟨y | y | y, st⟩⟩ <;> first | exact hk _ _ _ _ _ hl h | exact h
  case idiv => rcases st with _ | ⟨x | x | x, _ | ⟨y | y | y, st⟩⟩ <;> first | exact zim (fun h => h) (hk _ _ _ _ _ hl) h | exact h
  case irem => rcases st with _ | ⟨x | x | x, _ | ⟨y | y | y, st⟩⟩ <;> first | exact zim (fun h => h) (hk _ _ _ _ _ hl) h | exact h
  case ldiv => rcases st with _ | ⟨x | x | x, _ | ⟨y | y | y, st⟩⟩ <;> first | exact zim (fun h => h) (hk _ _ _ _ _ hl) h | exact h
  case lrem => rcases st with _ | ⟨x | x | x, _ | ⟨y | y | y, st⟩⟩ <;> first | exact zim (fun h => h) (hk _ _ _ _ _ hl) h | exact h
  case ineg => rcases st with _ | ⟨x | x | x, st⟩ <;> first | exact hk _ _ _ _ _ hl h | exact h
  case i2l => rcases st with _ | ⟨x | x | x, st⟩ <;> first | exact hk _ _ _ _ _ hl h | exact h
  case l2i => rcases st with _ | ⟨x | x | x, st⟩ <;> first | exact hk _ _ _ _ _ hl h | exact h
  case i2b => rcases st with _ | ⟨x | x | x, st⟩ <;> first | exact hk _ _ _ _ _ hl h | exact h
  case dup => rcases st with _ | ⟨x | x | x, st⟩ <;> first | exact hk _ _ _ _ _ hl h | exact h
  case pop => rcases st with _ | ⟨x | x | x, st⟩ <;> first | exact hk _ _ _ _ _ hl h | exact h
  case dup2 => rcases st with _ | ⟨x | x | x, _ | ⟨y | y | y, st⟩⟩ <;> first | exact hk _ _ _ _ _ hl h | exact h
  case ifCond => rcases st with _ | ⟨x | x | x, st⟩ <;> first | exact br _ _ _ _ _ _ _ (hk _ _ _ _ _ hl) (hk _ _ _ _ _ hl) h | exact h
  case if_icmp => rcases st with _ | ⟨x | x | x, _ | ⟨y | y | y, st⟩⟩ <;> first | exact br _ _ _ _ _ _ _ (hk _ _ _ _ _ hl) (hk _ _ _ _ _ hl) h | exact h
  case if_acmp => rename_i c _; rcases st with _ | ⟨x | x | ⟨t, x⟩, _ | ⟨y | y | ⟨t2, y⟩, st⟩⟩ <;> first | exact h | (cases c <;> exact zbm_mono (zim (hk _ _ _ _ _ hl) (hk _ _ _ _ _ hl)) h)
  case ifnull => rcases st with _ | ⟨x | x | ⟨t, _ | x⟩, st⟩ <;> first | exact hk _ _ _ _ _ hl h | exact h
  case ifnonnull => rcases st with _ | ⟨x | x | ⟨t, _ | x⟩, st⟩ <;> first | exact hk _ _ _ _ _ hl h | exact h
  case tableswitch => rcases st with _ | ⟨x | x | x, st⟩ <;> rcases ax with _ | ⟨d, ts⟩ <;> first | exact h | exact sw _ _ _ _ _ _ _ (fun t => hk _ _ _ _ _ hl) (hk _ _ _ _ _ hl) h
  case getfield => rcases st with _ | ⟨x | x | ⟨t, _ | x⟩, st⟩ <;> first | exact h | exact zbm_mono (zgf_mono (fun v => hk _ _ _ _ _ hl)) h
  case putfield => rcases st with _ | ⟨v, _ | ⟨x | x | ⟨t, _ | x⟩, st⟩⟩ <;> first | exact h | exact zbm_mono (zpf_mono (fun v => hk _ _ _ _ _ hl)) h
  case getstatic => rcases ax with _ | ⟨a, _ | ⟨b, ax⟩⟩ <;> first | exact h | exact hk _ _ _ _ _ hl h
  case iaload => rcases st with _ | ⟨x | x | x, _ | ⟨y | y | ⟨t, _ | y⟩, st⟩⟩ <;> first | exact h | exact zem_mono (zim (hk _ _ _ _ _ hl) (fun h => h)) (fun h => h) (fun h => h) (fun h => h) (fun h => h) (zim (hk _ _ _ _ _ hl) (fun h => h)) (fun h => h) h
  case baload => rcases st with _ | ⟨x | x | x, _ | ⟨y | y | ⟨t, _ | y⟩, st⟩⟩ <;> first | exact h | exact zem_mono (fun h => h) (fun h => h) (zim (hk _ _ _ _ _ hl) (fun h => h)) (zim (hk _ _ _ _ _ hl) (fun h => h)) (fun h => h) (fun h => h) (fun h => h) h
  case laload => rcases st with _ | ⟨x | x | x, _ | ⟨y | y | ⟨t, _ | y⟩, st⟩⟩ <;> first | exact h | exact zem_mono (fun h => h) (zim (hk _ _ _ _ _ hl) (fun h => h)) (fun h => h) (fun h => h) (fun h => h) (fun h => h) (fun h => h) h
  case aaload => rcases st with _ | ⟨x | x | x, _ | ⟨y | y | ⟨t, _ | y⟩, st⟩⟩ <;> first | exact h | exact zem_mono (fun h => h) (fun h => h) (fun h => h) (fun h => h) (zim (hk _ _ _ _ _ hl) (fun h => h)) (fun h => h) (zim (hk _ _ _ _ _ hl) (fun h => h)) h
  case iastore => rcases st with _ | ⟨v | v | v, _ | ⟨x | x | x, _ | ⟨y | y | ⟨t, _ | y⟩, st⟩⟩⟩ <;> first | exact h | exact zem_mono (zim (hk _ _ _ _ _ hl) (fun h => h)) (fun h => h) (fun h => h) (fun h => h) (fun h => h) (fun h => h) (fun h => h) h
  case lastore => rcases st with _ | ⟨v | v | v, _ | ⟨x | x | x, _ | ⟨y | y | ⟨t, _ | y⟩, st⟩⟩⟩ <;> first | exact h | exact zem_mono (fun h => h) (zim (hk _ _ _ _ _ hl) (fun h => h)) (fun h => h) (fun h => h) (fun h => h) (fun h => h) (fun h => h) h
  case bastore => rcases st with _ | ⟨v | v | v, _ | ⟨x | x | x, _ | ⟨y | y | ⟨t, _ | y⟩, st⟩⟩⟩ <;> first | exact h | exact zem_mono (fun h => h) (fun h => h) (zim (hk _ _ _ _ _ hl) (fun h => h)) (zim (hk _ _ _ _ _ hl) (fun h => h)) (fun h => h) (fun h => h) (fun h => h) h
  case aastore => rcases st with _ | ⟨v | v | ⟨t2, _ | v⟩, _ | ⟨x | x | x, _ | ⟨y | y | ⟨t, _ | y⟩, st⟩⟩⟩ <;> first | exact h | exact zbm_mono (zem_mono (fun h => h) (fun h => h) (fun h => h) (fun h => h) (zim (hk _ _ _ _ _ hl) (fun h => h)) (fun h => h) (fun h => h)) h
  case arraylength => rcases st with _ | ⟨x | x | ⟨t, _ | x⟩, st⟩ <;> first | exact h | exact zem_mono (hk _ _ _ _ _ hl) (hk _ _ _ _ _ hl) (hk _ _ _ _ _ hl) (hk _ _ _ _ _ hl) (hk _ _ _ _ _ hl) (hk _ _ _ _ _ hl) (hk _ _ _ _ _ hl) h
  case newarray => rcases st with _ | ⟨x | x | x, st⟩ <;> first | exact h | exact zim (hk _ _ _ _ _ hl) (fun h => h) h
  case anewarray => rcases st with _ | ⟨x | x | x, st⟩ <;> first | exact h | exact zim (hk _ _ _ _ _ hl) (fun h => h) h
  case invokevirtual => exact ziv_mono (fun v M => hk _ _ _ _ _ hl) (fun a b c => hc a b c) h
  case invokespecial => exact ziv_mono (fun v M => hk _ _ _ _ _ hl) (fun a b c => hc a b c) h
  case invokestatic => exact ziv_mono (fun v M => hk _ _ _ _ _ hl) (fun a b c => hc a b c) h
  case ireturn => exact h
  case lreturn => exact h
  case return_ => exact h
  all_goals exact h
end ZMONO

theorem zex_mono {G : ZG} : ∀ {n n' d : Nat} {tab : ZT} {pc : Nat} {ls ls' : ZL} {st : List ZV} {M : ZM} {r : ZR}, n ≤ n' → zle ls ls' → zex G d tab pc ls st M n = some r → zex G d tab pc ls' st M n' = some r := by
  intro n
  induction n with
  | zero => intro n' d tab pc ls ls' st M r _ _ h; cases h
  | succ n ih =>
    intro n' d tab pc ls ls' st M r hn hl h
    obtain ⟨n', rfl⟩ : ∃ m, n' = m + 1 := ⟨n' - 1, by omega⟩
    have hn2 : n ≤ n' := by omega
    unfold zex at h ⊢
    cases e : zfd tab pc with
    | none => rw [e] at h; cases h
    | some q =>
      rw [e] at h
      refine zst_mono (k := fun pc ls st M => zex G d tab pc ls st M n) (fun pc ls ls' st M hl h => ih hn2 hl h) ?_ hl h
      intro mi as rest h
      cases d with
      | zero => cases h
      | succ d =>
        simp only [zcd] at h ⊢
        cases e2 : G mi with
        | none => rw [e2] at h; cases h
        | some q2 =>
          obtain ⟨tab2, nl⟩ := q2
          rw [e2] at h
          simp only [zcg] at h ⊢
          refine zbm_mono ?_ h
          intro h
          cases e3 : zex G d tab2 0 (zen nl as) [] M n with
          | none => rw [e3] at h; cases h
          | some q3 =>
            obtain ⟨rv, M2⟩ := q3
            rw [e3] at h
            rw [ih hn2 (zle_rf _) e3]
            simp only [zcall] at h ⊢
            exact ih hn2 hl h
