def i_Rel (k : Nat) (u : SX) (v : SY) : Prop := ri_R u v
theorem i_up {k : Nat} {u : SX} {v : SY} (h : i_Rel k u v) : i_Rel (k + 5) u v := h
theorem i_vc0 (k0 : Int32) (k1 : Int32) : wpX_init (fun u => wpY_init (fun v => i_Rel 2 u v) k0 k1) k0 k1 := vq_init k0 k1
theorem i_vc_reset {k : Nat} {u : SX} {v : SY} (I : i_Rel k u v) (hk : k + 5 ≤ 2562) : wpX_reset (fun u' => wpY_reset (fun v' => i_Rel (k + 5) u' v') v) u := vq_reset I
theorem i_vc_token {k : Nat} {u : SX} {v : SY} (I : i_Rel k u v) (hk : k + 5 ≤ 2562) (v1 : Int32) (v2 : Int32) (v3 : Int32) (v4 : Int32) : wpX_token (fun r u' => wpY_token (fun r' v' => r' = r ∧ i_Rel (k + 5) u' v') v v1 v2 v3 v4) u v1 v2 v3 v4 := vq_token I v1 v2 v3 v4
theorem i_vc_tokenCount {k : Nat} {u : SX} {v : SY} (I : i_Rel k u v) (hk : k + 5 ≤ 2562) : wpX_tokenCount (fun r => wpY_tokenCount (fun r' => r' = r ∧ i_Rel (k + 5) u v) v) u := vq_tokenCount I
theorem i_vc_tokenKind {k : Nat} {u : SX} {v : SY} (I : i_Rel k u v) (hk : k + 5 ≤ 2562) (v1 : Int32) : wpX_tokenKind (fun r => wpY_tokenKind (fun r' => r' = r ∧ i_Rel (k + 5) u v) v v1) u v1 := vq_tokenKind I v1
theorem i_vc_compile {k : Nat} {u : SX} {v : SY} (I : i_Rel k u v) (hk : k + 5 ≤ 2562) : wpX_compile (fun r u' => wpY_compile (fun r' v' => r' = r ∧ i_Rel (k + 5) u' v') v) u := vq_compile I
theorem i_vc_errorCode {k : Nat} {u : SX} {v : SY} (I : i_Rel k u v) (hk : k + 5 ≤ 2562) : wpX_errorCode (fun r => wpY_errorCode (fun r' => r' = r ∧ i_Rel (k + 5) u v) v) u := vq_errorCode I
theorem i_vc_errorPos {k : Nat} {u : SX} {v : SY} (I : i_Rel k u v) (hk : k + 5 ≤ 2562) : wpX_errorPos (fun r => wpY_errorPos (fun r' => r' = r ∧ i_Rel (k + 5) u v) v) u := vq_errorPos I
theorem i_vc_run {k : Nat} {u : SX} {v : SY} (I : i_Rel k u v) (hk : k + 5 ≤ 2562) : wpX_run (fun r u' => wpY_run (fun r' v' => r' = r ∧ i_Rel (k + 5) u' v') v) u := vq_run I
theorem i_vc_status {k : Nat} {u : SX} {v : SY} (I : i_Rel k u v) (hk : k + 5 ≤ 2562) : wpX_status (fun r => wpY_status (fun r' => r' = r ∧ i_Rel (k + 5) u v) v) u := vq_status I
theorem i_vc_result {k : Nat} {u : SX} {v : SY} (I : i_Rel k u v) (hk : k + 5 ≤ 2562) : wpX_result (fun r => wpY_result (fun r' => r' = r ∧ i_Rel (k + 5) u v) v) u := vq_result I
theorem i_vc_trapCode {k : Nat} {u : SX} {v : SY} (I : i_Rel k u v) (hk : k + 5 ≤ 2562) : wpX_trapCode (fun r => wpY_trapCode (fun r' => r' = r ∧ i_Rel (k + 5) u v) v) u := vq_trapCode I
theorem i_vc_trapPos {k : Nat} {u : SX} {v : SY} (I : i_Rel k u v) (hk : k + 5 ≤ 2562) : wpX_trapPos (fun r => wpY_trapPos (fun r' => r' = r ∧ i_Rel (k + 5) u v) v) u := vq_trapPos I
theorem i_vc_outputCount {k : Nat} {u : SX} {v : SY} (I : i_Rel k u v) (hk : k + 5 ≤ 2562) : wpX_outputCount (fun r => wpY_outputCount (fun r' => r' = r ∧ i_Rel (k + 5) u v) v) u := vq_outputCount I
theorem i_vc_output {k : Nat} {u : SX} {v : SY} (I : i_Rel k u v) (hk : k + 5 ≤ 2562) (v1 : Int32) : wpX_output (fun r => wpY_output (fun r' => r' = r ∧ i_Rel (k + 5) u v) v v1) u v1 := vq_output I v1
theorem i_vc_performCount {k : Nat} {u : SX} {v : SY} (I : i_Rel k u v) (hk : k + 5 ≤ 2562) : wpX_performCount (fun r => wpY_performCount (fun r' => r' = r ∧ i_Rel (k + 5) u v) v) u := vq_performCount I
theorem i_vc_resumeCount {k : Nat} {u : SX} {v : SY} (I : i_Rel k u v) (hk : k + 5 ≤ 2562) : wpX_resumeCount (fun r => wpY_resumeCount (fun r' => r' = r ∧ i_Rel (k + 5) u v) v) u := vq_resumeCount I
