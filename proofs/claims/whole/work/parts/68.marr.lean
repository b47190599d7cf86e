/-! the places of the other side's arrays -/
theorem is_M : pb_is 7 213 165 := ⟨by decide, by decide, by decide⟩
theorem mf_there {σ : pb_H} (h : rm_fin σ) : σ 701 165 0 = 166 := h.1 0 (by decide)
theorem mk_there : pb_is 101 213 166 := ⟨by decide, by decide, by decide⟩
theorem ml_there : pb_ln 166 = 8 := by decide
theorem mf_address {σ : pb_H} (h : rm_fin σ) : σ 702 165 0 = 167 := h.1 1 (by decide)
theorem mk_address : pb_is 100 213 167 := ⟨by decide, by decide, by decide⟩
theorem ml_address : pb_ln 167 = 8 := by decide
theorem mf_draw {σ : pb_H} (h : rm_fin σ) : σ 703 165 0 = 168 := h.1 2 (by decide)
theorem mk_draw : pb_is 100 213 168 := ⟨by decide, by decide, by decide⟩
theorem ml_draw : pb_ln 168 = 8 := by decide
theorem mf_mild {σ : pb_H} (h : rm_fin σ) : σ 704 165 0 = 169 := h.1 3 (by decide)
theorem mk_mild : pb_is 101 213 169 := ⟨by decide, by decide, by decide⟩
theorem ml_mild : pb_ln 169 = 8 := by decide
theorem mf_state {σ : pb_H} (h : rm_fin σ) : σ 705 165 0 = 170 := h.1 4 (by decide)
theorem mk_state : pb_is 100 213 170 := ⟨by decide, by decide, by decide⟩
theorem ml_state : pb_ln 170 = 8 := by decide
theorem mf_own {σ : pb_H} (h : rm_fin σ) : σ 706 165 0 = 171 := h.1 5 (by decide)
theorem mk_own : pb_is 100 213 171 := ⟨by decide, by decide, by decide⟩
theorem ml_own : pb_ln 171 = 8 := by decide
theorem mf_channel {σ : pb_H} (h : rm_fin σ) : σ 707 165 0 = 172 := h.1 6 (by decide)
theorem mk_channel : pb_is 100 213 172 := ⟨by decide, by decide, by decide⟩
theorem ml_channel : pb_ln 172 = 8 := by decide
theorem mf_mouth {σ : pb_H} (h : rm_fin σ) : σ 708 165 0 = 173 := h.1 7 (by decide)
theorem mk_mouth : pb_is 100 213 173 := ⟨by decide, by decide, by decide⟩
theorem ml_mouth : pb_ln 173 = 8 := by decide
theorem mf_ear {σ : pb_H} (h : rm_fin σ) : σ 709 165 0 = 174 := h.1 8 (by decide)
theorem mk_ear : pb_is 100 213 174 := ⟨by decide, by decide, by decide⟩
theorem ml_ear : pb_ln 174 = 8 := by decide
theorem mf_kept {σ : pb_H} (h : rm_fin σ) : σ 710 165 0 = 175 := h.1 9 (by decide)
theorem mk_kept : pb_is 100 213 175 := ⟨by decide, by decide, by decide⟩
theorem ml_kept : pb_ln 175 = 8 := by decide
theorem mf_dials {σ : pb_H} (h : rm_fin σ) : σ 711 165 0 = 176 := h.1 10 (by decide)
theorem mk_dials : pb_is 100 213 176 := ⟨by decide, by decide, by decide⟩
theorem ml_dials : pb_ln 176 = 8 := by decide
theorem mf_patience {σ : pb_H} (h : rm_fin σ) : σ 712 165 0 = 177 := h.1 11 (by decide)
theorem mk_patience : pb_is 100 213 177 := ⟨by decide, by decide, by decide⟩
theorem ml_patience : pb_ln 177 = 8 := by decide
theorem mf_sends {σ : pb_H} (h : rm_fin σ) : σ 713 165 0 = 178 := h.1 12 (by decide)
theorem mk_sends : pb_is 100 213 178 := ⟨by decide, by decide, by decide⟩
theorem ml_sends : pb_ln 178 = 8 := by decide
theorem mf_takes {σ : pb_H} (h : rm_fin σ) : σ 714 165 0 = 179 := h.1 13 (by decide)
theorem mk_takes : pb_is 100 213 179 := ⟨by decide, by decide, by decide⟩
theorem ml_takes : pb_ln 179 = 8 := by decide
theorem mf_contends {σ : pb_H} (h : rm_fin σ) : σ 715 165 0 = 180 := h.1 14 (by decide)
theorem mk_contends : pb_is 101 213 180 := ⟨by decide, by decide, by decide⟩
theorem ml_contends : pb_ln 180 = 8 := by decide
theorem mf_length {σ : pb_H} (h : rm_fin σ) : σ 716 165 0 = 181 := h.1 15 (by decide)
theorem mk_length : pb_is 100 213 181 := ⟨by decide, by decide, by decide⟩
theorem ml_length : pb_ln 181 = 8 := by decide
theorem mf_kind {σ : pb_H} (h : rm_fin σ) : σ 717 165 0 = 182 := h.1 16 (by decide)
theorem mk_kind : pb_is 100 213 182 := ⟨by decide, by decide, by decide⟩
theorem ml_kind : pb_ln 182 = 64 := by decide
theorem mf_reference {σ : pb_H} (h : rm_fin σ) : σ 718 165 0 = 183 := h.1 17 (by decide)
theorem mk_reference : pb_is 100 213 183 := ⟨by decide, by decide, by decide⟩
theorem ml_reference : pb_ln 183 = 64 := by decide
theorem mf_value {σ : pb_H} (h : rm_fin σ) : σ 719 165 0 = 184 := h.1 18 (by decide)
theorem mk_value : pb_is 100 213 184 := ⟨by decide, by decide, by decide⟩
theorem ml_value : pb_ln 184 = 64 := by decide
theorem mf_failed {σ : pb_H} (h : rm_fin σ) : σ 720 165 0 = 185 := h.1 19 (by decide)
theorem mk_failed : pb_is 100 213 185 := ⟨by decide, by decide, by decide⟩
theorem ml_failed : pb_ln 185 = 64 := by decide
theorem mf_rows {σ : pb_H} (h : rm_fin σ) : σ 721 165 0 = 186 := h.1 20 (by decide)
theorem mk_rows : pb_is 100 213 186 := ⟨by decide, by decide, by decide⟩
theorem ml_rows : pb_ln 186 = 2 := by decide
theorem mf_downKind {σ : pb_H} (h : rm_fin σ) : σ 722 165 0 = 187 := h.1 21 (by decide)
theorem mk_downKind : pb_is 100 213 187 := ⟨by decide, by decide, by decide⟩
theorem ml_downKind : pb_ln 187 = 48 := by decide
theorem mf_downTo {σ : pb_H} (h : rm_fin σ) : σ 723 165 0 = 188 := h.1 22 (by decide)
theorem mk_downTo : pb_is 100 213 188 := ⟨by decide, by decide, by decide⟩
theorem ml_downTo : pb_ln 188 = 48 := by decide
theorem mf_downReference {σ : pb_H} (h : rm_fin σ) : σ 724 165 0 = 189 := h.1 23 (by decide)
theorem mk_downReference : pb_is 100 213 189 := ⟨by decide, by decide, by decide⟩
theorem ml_downReference : pb_ln 189 = 48 := by decide
theorem mf_downValue {σ : pb_H} (h : rm_fin σ) : σ 725 165 0 = 190 := h.1 24 (by decide)
theorem mk_downValue : pb_is 100 213 190 := ⟨by decide, by decide, by decide⟩
theorem ml_downValue : pb_ln 190 = 48 := by decide
theorem mf_downFailed {σ : pb_H} (h : rm_fin σ) : σ 726 165 0 = 191 := h.1 25 (by decide)
theorem mk_downFailed : pb_is 100 213 191 := ⟨by decide, by decide, by decide⟩
theorem ml_downFailed : pb_ln 191 = 48 := by decide
theorem mf_given {σ : pb_H} (h : rm_fin σ) : σ 727 165 0 = 192 := h.1 26 (by decide)
theorem mk_given : pb_is 101 213 192 := ⟨by decide, by decide, by decide⟩
theorem ml_given : pb_ln 192 = 8 := by decide
theorem mf_exchangeSends {σ : pb_H} (h : rm_fin σ) : σ 728 165 0 = 193 := h.1 27 (by decide)
theorem mk_exchangeSends : pb_is 100 213 193 := ⟨by decide, by decide, by decide⟩
theorem ml_exchangeSends : pb_ln 193 = 8 := by decide
theorem mf_exchangeTakes {σ : pb_H} (h : rm_fin σ) : σ 729 165 0 = 194 := h.1 28 (by decide)
theorem mk_exchangeTakes : pb_is 100 213 194 := ⟨by decide, by decide, by decide⟩
theorem ml_exchangeTakes : pb_ln 194 = 8 := by decide
theorem mf_auditClock {σ : pb_H} (h : rm_fin σ) : σ 730 165 0 = 195 := h.1 29 (by decide)
theorem mk_auditClock : pb_is 100 213 195 := ⟨by decide, by decide, by decide⟩
theorem ml_auditClock : pb_ln 195 = 8 := by decide
theorem mf_auditCount {σ : pb_H} (h : rm_fin σ) : σ 731 165 0 = 196 := h.1 30 (by decide)
theorem mk_auditCount : pb_is 100 213 196 := ⟨by decide, by decide, by decide⟩
theorem ml_auditCount : pb_ln 196 = 8 := by decide
theorem mf_spoilUp {σ : pb_H} (h : rm_fin σ) : σ 732 165 0 = 197 := h.1 31 (by decide)
theorem mk_spoilUp : pb_is 100 213 197 := ⟨by decide, by decide, by decide⟩
theorem ml_spoilUp : pb_ln 197 = 2 := by decide
theorem mf_spoilDown {σ : pb_H} (h : rm_fin σ) : σ 733 165 0 = 198 := h.1 32 (by decide)
theorem mk_spoilDown : pb_is 100 213 198 := ⟨by decide, by decide, by decide⟩
theorem ml_spoilDown : pb_ln 198 = 2 := by decide
theorem mf_number {σ : pb_H} (h : rm_fin σ) : σ 734 165 0 = 199 := h.1 33 (by decide)
theorem mk_number : pb_is 100 213 199 := ⟨by decide, by decide, by decide⟩
theorem ml_number : pb_ln 199 = 4 := by decide
theorem mf_caller {σ : pb_H} (h : rm_fin σ) : σ 735 165 0 = 200 := h.1 34 (by decide)
theorem mk_caller : pb_is 100 213 200 := ⟨by decide, by decide, by decide⟩
theorem ml_caller : pb_ln 200 = 4 := by decide
theorem mf_callerBus {σ : pb_H} (h : rm_fin σ) : σ 736 165 0 = 201 := h.1 35 (by decide)
theorem mk_callerBus : pb_is 100 213 201 := ⟨by decide, by decide, by decide⟩
theorem ml_callerBus : pb_ln 201 = 4 := by decide
theorem mf_callerAddress {σ : pb_H} (h : rm_fin σ) : σ 737 165 0 = 202 := h.1 36 (by decide)
theorem mk_callerAddress : pb_is 100 213 202 := ⟨by decide, by decide, by decide⟩
theorem ml_callerAddress : pb_ln 202 = 4 := by decide
theorem mf_callerReference {σ : pb_H} (h : rm_fin σ) : σ 738 165 0 = 203 := h.1 37 (by decide)
theorem mk_callerReference : pb_is 100 213 203 := ⟨by decide, by decide, by decide⟩
theorem ml_callerReference : pb_ln 203 = 4 := by decide
theorem mf_callerChannel {σ : pb_H} (h : rm_fin σ) : σ 739 165 0 = 204 := h.1 38 (by decide)
theorem mk_callerChannel : pb_is 100 213 204 := ⟨by decide, by decide, by decide⟩
theorem ml_callerChannel : pb_ln 204 = 4 := by decide
theorem mf_calledBus {σ : pb_H} (h : rm_fin σ) : σ 740 165 0 = 205 := h.1 39 (by decide)
theorem mk_calledBus : pb_is 100 213 205 := ⟨by decide, by decide, by decide⟩
theorem ml_calledBus : pb_ln 205 = 4 := by decide
theorem mf_calledChannel {σ : pb_H} (h : rm_fin σ) : σ 741 165 0 = 206 := h.1 40 (by decide)
theorem mk_calledChannel : pb_is 100 213 206 := ⟨by decide, by decide, by decide⟩
theorem ml_calledChannel : pb_ln 206 = 4 := by decide
theorem mf_phase {σ : pb_H} (h : rm_fin σ) : σ 742 165 0 = 207 := h.1 41 (by decide)
theorem mk_phase : pb_is 100 213 207 := ⟨by decide, by decide, by decide⟩
theorem ml_phase : pb_ln 207 = 4 := by decide
theorem mf_clock {σ : pb_H} (h : rm_fin σ) : σ 743 165 0 = 208 := h.1 42 (by decide)
theorem mk_clock : pb_is 100 213 208 := ⟨by decide, by decide, by decide⟩
theorem ml_clock : pb_ln 208 = 4 := by decide
theorem mf_again {σ : pb_H} (h : rm_fin σ) : σ 744 165 0 = 209 := h.1 43 (by decide)
theorem mk_again : pb_is 101 213 209 := ⟨by decide, by decide, by decide⟩
theorem ml_again : pb_ln 209 = 4 := by decide
theorem mf_winner {σ : pb_H} (h : rm_fin σ) : σ 745 165 0 = 210 := h.1 44 (by decide)
theorem mk_winner : pb_is 100 213 210 := ⟨by decide, by decide, by decide⟩
theorem ml_winner : pb_ln 210 = 4 := by decide
theorem mf_leg {σ : pb_H} (h : rm_fin σ) : σ 746 165 0 = 211 := h.1 45 (by decide)
theorem mk_leg : pb_is 100 213 211 := ⟨by decide, by decide, by decide⟩
theorem ml_leg : pb_ln 211 = 16 := by decide
theorem mf_speech {σ : pb_H} (h : rm_fin σ) : σ 748 165 0 = 212 := h.2
theorem mk_speech : pb_is 100 213 212 := ⟨by decide, by decide, by decide⟩
theorem ml_speech : pb_ln 212 = 4 := by decide
