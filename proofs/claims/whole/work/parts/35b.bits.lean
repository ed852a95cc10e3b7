/-! Integer.bitCount below 4096 -/
set_option maxRecDepth 100000 in
set_option maxHeartbeats 4000000 in
theorem pz_bc : ∀ m, m < 4096 → wp_J6_bitCount_0f7a4 (nI m) (fun r => r = nI (cn (fun k => m.testBit k) 12)) := by
  unfold wp_J6_bitCount_0f7a4
  decide +kernel
theorem sp_J6_bitCount {m : Nat} {post : Int32 → Prop} (hm : m < 4096) (hp : post (nI (cn (fun k => m.testBit k) 12))) : wp_J6_bitCount_0f7a4 (nI m) post := by
  have h := pz_bc m hm
  unfold wp_J6_bitCount_0f7a4 at h ⊢
  rw [h]; exact hp
