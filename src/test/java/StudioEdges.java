/** What the document says at the edges of promises 9 to 11, and of term 3: a sentence, and the runs that hold it. */
final class StudioEdges {
    /** CUE 0 of one BAR (a TAKE of it takes 4 minutes), CUE 1 of nine (5 minutes). */
    static final String FOUR_AND_FIVE = "cue 0 -1 1 0 0; bar 0 2 24; cue 0 -1 1 0 0;" + "bar 1 7 160;".repeat(9);

    private final Run run;

    StudioEdges(Run run) {
        this.run = run;
    }

    void all() {
        openBand();
        openTwice();
        takeCue();
        takeNotes();
        takePush();
        takeSession();
        takePlayers();
        takeMinutes();
        takeTime();
        takeMost();
        takeInOrder();
        takeValid();
        closeNone();
        closeCosts();
    }

    private void openBand() {
        run.of("9: IllegalArgumentException if band is not 1 to 60", """
            open 0 = ARGUMENT; open -1 = ARGUMENT; open 61 = ARGUMENT; many 12 = 0; open 1 = 0; many 12 = 1; close = 0
            open 60 = 0; many 12 = 60; close; open -2147483648 = ARGUMENT; open 2147483647 = ARGUMENT; many 12 = 0
            """);
    }

    private void openTwice() {
        run.of("9: IllegalStateException if one is open", "open 1; open 1 = STATE; open 60 = STATE; many 12 = 1");
        run.of("9: in the order of the document", "open 60; open 0 = ARGUMENT; open 61 = ARGUMENT; open 60 = STATE");
        run.of("9: it returns how many TAKES there are so far", "cue 0 -1 1 0 0; bar 0 2 24; open 1 = 0;"
            + "take 0 1 0; close; open 1 = 1; close; open 1 = 1;" + "take 0 1 0;".repeat(30) + "close; open 1 = 31;"
            + "take 0 1 0;".repeat(9) + "close; open 1 = 40; take 0 1 0 = STATE");
        run.of("9: TIME is 0 at first, in each SESSION", "cue 0 -1 1 0 0; bar 0 2 24; open 1; many 13 = 0;"
            + "take 0 1 0; many 13 = 4; close; many 13 = 0; open 1; many 13 = 0");
    }

    private void takeCue() {
        run.of("10: IndexOutOfBoundsException if there is no such CUE", "cue 0 -1 1 0 0; bar 0 2 24; open 1;" + """
            take -1 0 0 = INDEX; take 1 0 0 = INDEX; take 0 0 0 = 0
            take -2147483648 0 0 = INDEX; take 2147483647 0 0 = INDEX
            """);
        run.of("10: IndexOutOfBoundsException if there is no such CUE of eight", "cue 0 -1 1 0 0;".repeat(8)
            + "bar 7 2 24; open 1; take 8 0 0 = INDEX; take 7 0 0 = 0");
    }

    private void takeNotes() {
        long most = 9;
        for (int bars = 1; bars <= 9; bars++) {
            run.of("10: IllegalArgumentException if notes is above what " + bars + " digits can tell",
                "cue 0 -1 1 0 0;" + "bar 0 2 24;".repeat(bars) + "open 1; take 0 -1 0 = ARGUMENT; take 0 0 0 = 0;"
                + "take 0 " + (most + 1) + " 0 = ARGUMENT; take 0 " + most + " 0 = 1; ofTake 1 4 = " + 9 * bars
                + "; ofTake 0 4 = 0; take 0 2147483647 0 = ARGUMENT; take 0 -2147483648 0 = ARGUMENT; many 10 = 2");
            most = most * 10 + 9;
        }
        run.of("10: IllegalArgumentException without BARS if notes is above 0", "cue 0 -1 1 0 0; open 1;"
            + "take 0 1 0 = ARGUMENT; take 0 -1 0 = ARGUMENT; take 0 0 0 = STATE");
        run.of("10: the digit of the BAR 0 is the lowest one", "cue 0 -1 1 0 0;" + "bar 0 2 24;".repeat(9)
            + "open 1; take 0 9 0; take 0 900000000 0; join 0 = 14; joined 0 0 = 0; joined 0 8 = 1");
    }

    private void takePush() {
        run.of("10: IllegalArgumentException if push is not -2 to 2", "cue 0 -1 1 0 0; bar 0 2 24; open 1;" + """
            take 0 5 -3 = ARGUMENT; take 0 5 -2 = 0; ofTake 0 2 = -2
            take 0 5 3 = ARGUMENT; take 0 5 2 = 1; ofTake 1 2 = 2
            take 0 5 -2147483648 = ARGUMENT; take 0 5 2147483647 = ARGUMENT
            """);
    }

    private void takeSession() {
        run.of("10: IllegalStateException if no SESSION is open", "cue 0 -1 1 0 0; bar 0 2 24;"
            + "take 0 5 0 = STATE; open 1; take 0 5 0 = 0; close; take 0 5 0 = STATE");
        run.of("10: IllegalStateException if the CUE has no BARS", "cue 0 -1 1 0 0; open 1;"
            + "take 0 0 0 = STATE; bar 0 2 24; take 0 0 0 = 0");
    }

    private void takePlayers() {
        run.of("10: IllegalStateException if it needs more PLAYERS than the band", """
            cue 0 -1 1 0 0; cue 0 -1 2 0 0; cue 0 -1 40 0 0; bar 0 2 24; bar 1 2 24; bar 2 2 24
            open 1; take 1 5 0 = STATE; take 2 5 0 = STATE; take 0 5 0 = 0; close
            open 2; take 1 5 0 = 1; take 2 5 0 = STATE; close
            open 39; take 2 5 0 = STATE; close; open 40; take 2 5 0 = 2; close; open 60; take 2 5 0 = 3
            """);
    }

    private void minutes(int frames, int due, String bars) {
        run.of("10: TIME is more by 3, and the minutes of " + frames + " FRAMES", "cue 0 -1 1 0 0;" + bars
            + "ofCue 0 8 = " + frames + "; open 1; take 0 0 0; many 13 = " + (3 + due));
    }

    private void takeMinutes() {
        String ahead = "bar 0 7 160;".repeat(5);
        minutes(12, 1, "bar 0 2 24;");
        minutes(1439, 1, ahead + "bar 0 2 78;");
        minutes(1440, 1, ahead + "bar 0 2 80;");
        // 1440 and a half: its FRAMES are 1441
        minutes(1441, 2, ahead + "bar 0 2 81;");
        minutes(1441, 2, ahead + "bar 0 2 82;");
        minutes(2520, 2, CuesEdges.GREATEST_BARS);
        run.of("10: all FRAMES of one that RUNS OVER count", "cue 2400 -1 1 0 0;" + CuesEdges.GREATEST_BARS
            + "open 1; take 0 0 0; many 13 = 5");
    }

    private void takeTime() {
        run.of("10: IllegalStateException if TIME would be above 120: by 4", FOUR_AND_FIVE + "open 1;"
            + "take 0 5 0;".repeat(29) + "many 13 = 116; take 0 5 0 = 29; many 13 = 120; take 0 5 0 = STATE;"
            + "take 1 5 0 = STATE; many 10 = 30");
        run.of("10: IllegalStateException if TIME would be above 120: by 1", FOUR_AND_FIVE + "open 1;"
            + "take 0 5 0;".repeat(29) + "take 1 5 0 = STATE; many 13 = 116; many 10 = 29");
        run.of("10: TIME may be 120", FOUR_AND_FIVE + "open 1;"
            + "take 1 5 0;".repeat(23) + "many 13 = 115; take 1 5 0 = 23; many 13 = 120; take 0 5 0 = STATE");
        run.of("10: 120 at most together is of each SESSION", FOUR_AND_FIVE + "open 1;"
            + "take 0 5 0;".repeat(30) + "take 0 5 0 = STATE; close = 40; open 1; take 0 5 0 = 30; many 13 = 4");
    }

    private void takeMost() {
        run.of("10: IllegalStateException if there are 40", "cue 0 -1 1 0 0; bar 0 2 24; open 1;"
            + "take 0 5 0;".repeat(30) + "close; open 1;" + "take 0 5 0;".repeat(9)
            + "many 10 = 39; take 0 6 1 = 39; take 0 5 0 = STATE; many 10 = 40; many 13 = 40;"
            + "ofTake 39 4 = 6; ofTake 40 4 = INDEX; many 11 = 40");
        run.of("10: those that are not VALID are TAKES too", "cue 0 -1 1 0 0; bar 0 2 24; open 1;"
            + "take 0 5 0;".repeat(20) + "retime 0 0 2 24; close; open 1;" + "take 0 5 0;".repeat(20)
            + "retime 0 0 2 24; many 11 = 0; take 0 5 0 = STATE; many 10 = 40");
    }

    private void takeInOrder() {
        run.of("10: no such CUE ahead of all else, without a SESSION", "cue 0 -1 1 0 0;"
            + "take 1 -1 0 = INDEX; take -1 0 3 = INDEX; take 1 0 0 = INDEX; take 1 1 -3 = INDEX");
        run.of("10: wrong notes or push ahead of no SESSION and no BARS", "cue 0 -1 1 0 0;"
            + "take 0 -1 0 = ARGUMENT; take 0 1 0 = ARGUMENT; take 0 0 -3 = ARGUMENT; take 0 0 3 = ARGUMENT;"
            + "take 0 0 0 = STATE");
        run.of("10: wrong notes or push ahead of no BARS", "cue 0 -1 1 0 0; open 1;"
            + "take 0 1 0 = ARGUMENT; take 0 0 3 = ARGUMENT; take 0 0 0 = STATE");
        run.of("10: wrong notes or push ahead of more PLAYERS than the band", "cue 0 -1 2 0 0; bar 0 2 24; open 1;"
            + "take 1 5 0 = INDEX; take 0 10 0 = ARGUMENT; take 0 9 -3 = ARGUMENT; take 0 9 2 = STATE");
        run.of("10: wrong notes or push ahead of too much TIME", FOUR_AND_FIVE + "open 1;" + "take 0 5 0;".repeat(30)
            + "take 2 5 0 = INDEX; take 0 10 0 = ARGUMENT; take 0 9 3 = ARGUMENT; take 0 9 2 = STATE");
        run.of("10: wrong notes or push ahead of 40 TAKES", FOUR_AND_FIVE + "open 1;" + "take 0 5 0;".repeat(30)
            + "close; open 1;" + "take 0 5 0;".repeat(10)
            + "take 2 5 0 = INDEX; take 0 10 0 = ARGUMENT; take 0 9 3 = ARGUMENT; take 0 9 2 = STATE");
    }

    private void takeValid() {
        run.of("10: a TAKE is of the EDITION that the CUE has then, and VALID as long as it has that", """
            cue 0 -1 1 0 0; bar 0 2 24; open 1; take 0 5 0; ofTake 0 1 = 1; ofTake 0 3 = 1; bar 0 2 24
            ofTake 0 1 = 1; ofTake 0 3 = 0; take 0 55 0; ofTake 1 1 = 2; ofTake 1 3 = 1; close; ofTake 1 3 = 1
            shift 0 9; ofTake 1 3 = 1; change 9 1; ofTake 1 3 = 1; change 11 1; ofTake 1 3 = 0
            """);
    }

    private void closeNone() {
        run.of("11: IllegalStateException if none is open", "close = STATE; open 1; close = 0; close = STATE");
        run.of("11: one without TIME costs nothing", "open 60; close = 0; many 14 = 0; many 12 = 0; many 13 = 0");
    }

    private void cost(int fours, int fives, int due) {
        int minutes = 4 * fours + 5 * fives;
        for (int band = 1; band <= 60; band += 59) {
            run.of("11: what a band of " + band + " costs for " + minutes + " minutes", FOUR_AND_FIVE + "open " + band
                + ";" + "take 0 0 0;".repeat(fours) + "take 1 0 0;".repeat(fives) + "many 13 = " + minutes
                + "; close = " + due * band + "; many 14 = " + due * band);
        }
    }

    private void closeCosts() {
        cost(1, 0, 4);
        cost(0, 3, 4);
        cost(4, 0, 8);
        cost(0, 6, 8);
        cost(4, 3, 12);
        cost(0, 9, 12);
        cost(4, 6, 16);
        cost(0, 12, 16);
        cost(15, 0, 16);
        cost(14, 1, 16 + 6);
        cost(0, 15, 16 + 6);
        cost(19, 0, 16 + 12);
        cost(0, 18, 16 + 12);
        cost(4, 15, 16 + 18);
        cost(0, 21, 16 + 18);
        cost(19, 6, 16 + 24);
        cost(0, 24, 16 + 24);
        run.of("18: what SESSIONS cost ever", FOUR_AND_FIVE + "open 60;" + "take 1 0 0;".repeat(24)
            + "many 14 = 0; close = 2400; many 14 = 2400; open 60; close = 0; many 14 = 2400; open 7; take 0 0 0;"
            + "many 14 = 2400; close = 28; many 14 = 2428");
    }
}
