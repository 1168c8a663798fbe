theorem dL_law_932 : decode cL_law 932 = .ok (.aload_n 0, 1) := by decide +kernel
theorem dL_law_933 : decode cL_law 933 = .ok (.iload_n 3, 1) := by decide +kernel
theorem dL_law_934 : decode cL_law 934 = .ok (.iconst 1, 1) := by decide +kernel
theorem dL_law_935 : decode cL_law 935 = .ok (.iadd, 1) := by decide +kernel
theorem dL_law_936 : decode cL_law 936 = .ok (.iaload, 1) := by decide +kernel
theorem dL_law_937 : decode cL_law 937 = .ok (.invokevirtual 123, 3) := by decide +kernel
theorem dL_law_940 : decode cL_law 940 = .ok (.aload_n 2, 1) := by decide +kernel
theorem dL_law_941 : decode cL_law 941 = .ok (.aload_n 0, 1) := by decide +kernel
theorem dL_law_942 : decode cL_law 942 = .ok (.iload_n 3, 1) := by decide +kernel
theorem dL_law_943 : decode cL_law 943 = .ok (.iconst 1, 1) := by decide +kernel
theorem dL_law_944 : decode cL_law 944 = .ok (.iadd, 1) := by decide +kernel
theorem dL_law_945 : decode cL_law 945 = .ok (.iaload, 1) := by decide +kernel
theorem dL_law_946 : decode cL_law 946 = .ok (.invokevirtual 126, 3) := by decide +kernel
theorem dL_law_949 : decode cL_law 949 = .ok (.if_icmp .eq 5, 3) := by decide +kernel
theorem dL_law_952 : decode cL_law 952 = .ok (.iconst 0, 1) := by decide +kernel
theorem dL_law_953 : decode cL_law 953 = .ok (.ireturn, 1) := by decide +kernel
theorem dL_law_954 : decode cL_law 954 = .ok (.iinc 3 6, 3) := by decide +kernel
theorem dL_law_957 : decode cL_law 957 = .ok (.goto (-939), 3) := by decide +kernel
theorem dL_law_960 : decode cL_law 960 = .ok (.iconst 1, 1) := by decide +kernel
theorem dL_law_961 : decode cL_law 961 = .ok (.ireturn, 1) := by decide +kernel
