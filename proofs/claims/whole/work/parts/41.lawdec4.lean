theorem d_Q_law_953 : decode code 953 = .ok (.iload 5, 2) := by decide +kernel
theorem d_Q_law_955 : decode code 955 = .ok (.ifCond .ne 15, 3) := by decide +kernel
theorem d_Q_law_958 : decode code 958 = .ok (.aload_n 3, 1) := by decide +kernel
theorem d_Q_law_959 : decode code 959 = .ok (.iconst 0, 1) := by decide +kernel
theorem d_Q_law_960 : decode code 960 = .ok (.laload, 1) := by decide +kernel
theorem d_Q_law_961 : decode code 961 = .ok (.iload 6, 2) := by decide +kernel
theorem d_Q_law_963 : decode code 963 = .ok (.i2l, 1) := by decide +kernel
theorem d_Q_law_964 : decode code 964 = .ok (.lcmp, 1) := by decide +kernel
theorem d_Q_law_965 : decode code 965 = .ok (.ifCond .eq 5, 3) := by decide +kernel
theorem d_Q_law_968 : decode code 968 = .ok (.iconst 0, 1) := by decide +kernel
theorem d_Q_law_969 : decode code 969 = .ok (.ireturn, 1) := by decide +kernel
theorem d_Q_law_970 : decode code 970 = .ok (.goto 39, 3) := by decide +kernel
theorem d_Q_law_973 : decode code 973 = .ok (.aload_n 1, 1) := by decide +kernel
theorem d_Q_law_974 : decode code 974 = .ok (.aload_n 0, 1) := by decide +kernel
theorem d_Q_law_975 : decode code 975 = .ok (.iload 4, 2) := by decide +kernel
theorem d_Q_law_977 : decode code 977 = .ok (.iconst 1, 1) := by decide +kernel
theorem d_Q_law_978 : decode code 978 = .ok (.iadd, 1) := by decide +kernel
theorem d_Q_law_979 : decode code 979 = .ok (.iaload, 1) := by decide +kernel
theorem d_Q_law_980 : decode code 980 = .ok (.invokevirtual 123, 3) := by decide +kernel
theorem d_Q_law_983 : decode code 983 = .ok (.aload_n 2, 1) := by decide +kernel
theorem d_Q_law_984 : decode code 984 = .ok (.aload_n 0, 1) := by decide +kernel
theorem d_Q_law_985 : decode code 985 = .ok (.iload 4, 2) := by decide +kernel
theorem d_Q_law_987 : decode code 987 = .ok (.iconst 1, 1) := by decide +kernel
theorem d_Q_law_988 : decode code 988 = .ok (.iadd, 1) := by decide +kernel
theorem d_Q_law_989 : decode code 989 = .ok (.iaload, 1) := by decide +kernel
theorem d_Q_law_990 : decode code 990 = .ok (.invokevirtual 126, 3) := by decide +kernel
theorem d_Q_law_993 : decode code 993 = .ok (.if_icmp .eq 16, 3) := by decide +kernel
theorem d_Q_law_996 : decode code 996 = .ok (.iconst 0, 1) := by decide +kernel
theorem d_Q_law_997 : decode code 997 = .ok (.ireturn, 1) := by decide +kernel
theorem d_Q_law_998 : decode code 998 = .ok (.aload_n 1, 1) := by decide +kernel
theorem d_Q_law_999 : decode code 999 = .ok (.invokevirtual 127, 3) := by decide +kernel
theorem d_Q_law_1002 : decode code 1002 = .ok (.aload_n 2, 1) := by decide +kernel
theorem d_Q_law_1003 : decode code 1003 = .ok (.invokevirtual 130, 3) := by decide +kernel
theorem d_Q_law_1006 : decode code 1006 = .ok (.goto 3, 3) := by decide +kernel
theorem d_Q_law_1009 : decode code 1009 = .ok (.iinc 4 4, 3) := by decide +kernel
theorem d_Q_law_1012 : decode code 1012 = .ok (.goto (-949), 3) := by decide +kernel
theorem d_Q_law_1015 : decode code 1015 = .ok (.iconst 1, 1) := by decide +kernel
theorem d_Q_law_1016 : decode code 1016 = .ok (.ireturn, 1) := by decide +kernel

