/-! ===== pure part: the beginning ===== -/
def Sz (b : Nat) : Cst := (fun _ _ => 0, fun _ _ => none, fun _ _ => 0, fun _ => 0, fun _ _ => 0, fun _ _ => none, b)
theorem sim_sN {n x m : Nat} {S : Cst} {R : Rst} (h : Sim n x S R) (hn : nx S ≤ m) : Sim n x (sN S m) R := by
  obtain ⟨P, L, M, Q, H, t, hA, ht, hH⟩ := h
  have hG' : uG P (sN S m) (rput R 0 0) L t := uG_X (S := S) hn (fun _ _ _ _ => rfl) (fun _ _ _ _ => rfl) (fun b hb => (hA.2.1.2.2.2.2 b hb).1) ⟨rfl, rfl, rfl⟩ (fun _ _ => rfl) hA.2.2.2.1
  exact ⟨P, L, M, Q, H, t, uA_F hA hG' ⟨hn, fun _ _ _ _ _ _ _ => rfl, fun _ _ _ _ _ _ => rfl, rfl, rfl, rfl⟩ uRF.rf uSl.rf (fun f hf _ => hf), ht, hH⟩
def P0 : Par := (0, fun _ => 0, fun _ => 0, fun _ => none, fun _ => 0, fun _ _ => 0, fun _ _ _ => 0)
theorem liv_R0 : liv (rput R0 0 0) = [] := by
  unfold liv
  rw [List.filter_eq_nil_iff]
  intro s _
  have : (rput R0 0 0).2 22 s = 0 := rfl
  rw [this]
  decide
theorem sim_init (F : Nat) (b : Nat) : ∃ S1, cf_X6_init F (nO (Sz b)) b = some S1 ∧ Sim 512 b S1 R0 := by
  unfold cf_X6_init
  simp only [st1]
  refine ⟨_, rfl, P0, [], fun _ _ _ => [], fun _ _ _ => (0, 0), [], 0, ?_, by decide, by decide⟩
  have n0 : ∀ a, ¬ a < pn P0 := fun a h => Nat.not_lt_zero a h
  have v0 : ∀ a i, ¬ vd P0 a i := fun a i h => n0 a h.1
  refine ⟨⟨Nat.zero_le _, ⟨rfl, rfl⟩, fun a ha => absurd ha (n0 a)⟩, ⟨?_, ?_, ⟨b + 1, ?_, ?_, fun a ha => ?_⟩, fun a c ha => absurd ha (n0 a), fun a ha => absurd ha (n0 a)⟩, ⟨fun a ha => absurd ha (n0 a), fun a _ => ⟨rfl, rfl, rfl, rfl⟩, fun p hp => ?_, fun a ha => absurd ha (n0 a)⟩, ⟨⟨fun e he => (by cases he), ?_⟩, ⟨fun s _ => Or.inl rfl, fun s _ hs => ?_, fun s s' a a' c _ _ hs => ?_, by rw [liv_R0]; rfl, by rw [liv_R0]; decide⟩, ⟨rfl, by decide, fun k e hk => (by simp at hk)⟩, ⟨fun e he => (by cases he), List.nodup_nil, fun a ha => absurd ha (n0 a)⟩, fun a ha => absurd ha (n0 a), ⟨by decide, by decide, fun a ha => absurd ha (n0 a), fun e he => (by cases he), fun e he => (by cases he), fun e he => (by cases he)⟩⟩, ⟨⟨fun a i h => absurd h (v0 a i), fun a i d h => absurd h (v0 a i), fun a i k h => absurd h (v0 a i), fun a i k a' i' k' h => absurd h (v0 a i), fun a i d a' i' d' h => absurd h (v0 a i)⟩, fun a i e h => absurd h.1 (v0 a i), ⟨fun a c h => (by cases h), fun a i c h => absurd h (v0 a i), List.nodup_nil, fun a i h => absurd h (v0 a i), fun a i c h => absurd h (v0 a i), fun e he => (by cases he)⟩⟩, ⟨fun a i k _ _ _ => ⟨rfl, Nat.zero_le 3, fun j v hj => (by simp at hj)⟩, fun a i _ _ => ⟨0, Nat.zero_le 4, rfl, rfl, fun m l v hm => absurd hm (Nat.not_lt_zero m)⟩, fun a i d _ => Or.inl rfl, fun a i k _ => rfl, rfl, by decide, fun h a c hh => (by simp at hh)⟩⟩
  · show b < b + 1 + 1; omega
  · rw [gI_sI, if_pos ⟨rfl, rfl⟩]; rfl
  · show gP (sP (nA (nO (Sz b)) 8) 96 b (some (b + 1))) 96 b = _
    rw [gP_sP, if_pos ⟨rfl, rfl⟩]
  · show va_up (fun _ => 0) (b + 1) 8 (b + 1) = 8
    unfold va_up; rw [if_pos rfl]
  · show va_up (fun _ _ => none) (b + 1) (fun _ => none) (b + 1) a = _
    rw [if_neg (n0 a)]
    unfold va_up; rw [if_pos rfl]
  · show va_up (fun _ => 0) (b + 1) 8 p = 0
    have hp' : b + 1 + 1 ≤ p := hp
    unfold va_up; rw [if_neg (by omega)]
  · exact trivial
  · cases hs
  · cases hs
