/** What the document says at the edges of promises 12 to 19, and of term 4: a sentence, and the runs that hold it. */
final class AskedEdges {
    /** A CUE of the FRAMES 100 to 119: BEATS at 100 and 110. */
    private static final String CUE_AT_100 = "cue 100 -1 1 0 0; bar 0 2 40;";

    private final Run run;

    AskedEdges(Run run) {
        this.run = run;
    }

    void all() {
        ofHitRefuses();
        ofHitMiss();
        ofHitMet();
        ofHitOfSeveral();
        ofHitGone();
        ofCueRefuses();
        ofCueHeard();
        ofBarRefuses();
        beatRefuses();
        ofTakeRefuses();
        sheetRefuses();
        sheetPays();
        manyRefuses();
        manyOfSession();
        manyOfAll();
        meanNote();
    }

    private void ofHitRefuses() {
        run.of("12: IndexOutOfBoundsException if there is no such HIT", """
            hit 7 3; ofHit -1 0 = INDEX; ofHit 1 0 = INDEX; ofHit 0 0 = 7
            ofHit -2147483648 0 = INDEX; ofHit 2147483647 0 = INDEX
            """);
        run.of("12: IndexOutOfBoundsException if there is no such HIT of twelve",
            "hit 7 3;".repeat(12) + "ofHit 12 0 = INDEX; ofHit 11 0 = 7");
        run.of("12: IllegalArgumentException if what is not 0 to 6", """
            hit 7 3; ofHit 0 -1 = ARGUMENT; ofHit 0 0 = 7; ofHit 0 1 = 3; ofHit 0 2 = 0; ofHit 0 3 = -1; ofHit 0 4 = 0
            ofHit 0 5 = -1; ofHit 0 6 = -1; ofHit 0 7 = ARGUMENT
            ofHit 0 -2147483648 = ARGUMENT; ofHit 0 2147483647 = ARGUMENT
            """);
        run.of("12: in the order of the document", "ofHit 0 7 = INDEX; hit 7 3; ofHit 1 -1 = INDEX; ofHit -1 7 = INDEX");
    }

    private void ofHitMiss() {
        run.of("12: MISS is NONE without BEATS", "hit 100 9; cue 100 -1 1 0 0; ofHit 0 3 = -1; ofHit 0 4 = 0;"
            + "ofHit 0 5 = -1; ofHit 0 6 = -1; many 4 = 0; bar 0 2 24; ofHit 0 3 = 0; ofHit 0 4 = 1; ofHit 0 5 = 0;"
            + "ofHit 0 6 = 0; many 4 = 1");
        run.of("12: MISS is without its sign", CUE_AT_100 + "hit 97 0; hit 113 0; ofHit 0 3 = 3; ofHit 1 3 = 3");
        run.of("12: the greatest MISS of a new picture, behind", "hit 0 9; cue 2400 -1 1 0 0; bar 0 2 24;"
            + "ofHit 0 3 = 2400; ofHit 0 5 = 0; ofHit 0 6 = 0");
        run.of("12: the greatest MISS of a new picture, ahead", "hit 2399 9; cue 0 -1 1 0 0; bar 0 2 24;"
            + "ofHit 0 3 = 2393; ofHit 0 5 = 0; ofHit 0 6 = 1");
        run.of("12: a BEAT behind the picture counts", "hit 2399 9; cue 2400 -1 1 0 0; bar 0 2 24; ofHit 0 3 = 1");
    }

    private void ofHitMet() {
        run.of("12: MET, if MISS is no more than a TOLERANCE of 0", CUE_AT_100
            + "hit 99 0; hit 100 0; hit 101 0; ofHit 0 4 = 0; ofHit 1 4 = 1; ofHit 2 4 = 0; many 4 = 1");
        run.of("12: MET, if MISS is no more than a TOLERANCE of 9", CUE_AT_100
            + "hit 90 9; hit 91 9; hit 119 9; hit 120 9; ofHit 0 4 = 0; ofHit 1 4 = 1; ofHit 2 4 = 1; ofHit 3 4 = 0");
        run.of("12: all are MET", CUE_AT_100 + "hit 110 0;".repeat(12) + "many 4 = 12; shift 0 99 = 0; many 4 = 0");
    }

    private void ofHitOfSeveral() {
        run.of("12: of several CUES the smallest number", "hit 100 9; cue 0 -1 1 0 0; cue 105 -1 1 0 0; bar 1 2 40;"
            + "cue 95 -1 1 0 0; bar 2 2 160; ofHit 0 3 = 5; ofHit 0 5 = 1; ofHit 0 6 = 0; shift 1 106; ofHit 0 5 = 2");
        run.of("12: of several CUES the smallest number, though its BEAT has a greater one",
            "hit 100 9; cue 90 -1 1 0 0; bar 0 2 40; cue 100 -1 1 0 0; bar 1 2 40; ofHit 0 5 = 0; ofHit 0 6 = 1");
        run.of("12: of several BEATS the smallest", CUE_AT_100 + "hit 105 9; ofHit 0 3 = 5; ofHit 0 6 = 0; hit 106 9;"
            + "ofHit 1 3 = 4; ofHit 1 6 = 1");
        run.of("12: the last BEAT of the last CUE", "cue 0 -1 1 0 0;".repeat(8)
            + "bar 7 7 160;".repeat(9) + "hit 2390 9; ofHit 0 3 = 10; ofHit 0 5 = 7; ofHit 0 6 = 60; shift 7 2400;"
            + "change 2399 999; hit 3398 9; ofHit 1 6 = 0");
    }

    private void ofHitGone() {
        run.of("12: one that is GONE has no MISS, and is never MET", CUE_AT_100 + "hit 100 9; change 100 -1;"
            + "ofHit 0 2 = 1; ofHit 0 3 = -1; ofHit 0 4 = 0; ofHit 0 5 = -1; ofHit 0 6 = -1; many 3 = 1; many 4 = 0;"
            + "ofHit 0 1 = 9");
    }

    private void ofCueRefuses() {
        run.of("13: IndexOutOfBoundsException if there is no such CUE", CUE_AT_100 + """
            ofCue -1 0 = INDEX; ofCue 1 0 = INDEX; ofCue 0 0 = 100
            ofCue -2147483648 0 = INDEX; ofCue 2147483647 0 = INDEX
            """);
        run.of("13: IndexOutOfBoundsException if there is no such CUE of eight",
            "cue 3 -1 1 0 0;".repeat(8) + "ofCue 8 0 = INDEX; ofCue 7 0 = 3");
        run.of("13: IllegalArgumentException if what is not 0 to 12", "theme 5; cue 4 0 3 2 1;" + """
            ofCue 0 -1 = ARGUMENT; ofCue 0 13 = ARGUMENT; ofCue 0 0 = 4; ofCue 0 1 = 0; ofCue 0 2 = 3; ofCue 0 3 = 2
            ofCue 0 4 = 1; ofCue 0 5 = 0; ofCue 0 6 = 0; ofCue 0 7 = 0; ofCue 0 8 = 4; ofCue 0 9 = 0; ofCue 0 10 = 1
            ofCue 0 11 = 0; ofCue 0 12 = 0; ofCue 0 -2147483648 = ARGUMENT; ofCue 0 2147483647 = ARGUMENT
            """);
        run.of("13: in the order of the document",
            "ofCue 0 13 = INDEX; cue 4 -1 3 2 1; ofCue 1 -1 = INDEX; ofCue -1 13 = INDEX");
    }

    private void seconds(int frames, int due, String bars) {
        run.of("13: SECONDS of " + frames + " FRAMES", "cue 0 -1 1 0 0;" + bars + "ofCue 0 8 = " + frames
            + "; ofCue 0 12 = 0; open 1; take 0 0 0; ofCue 0 12 = " + due);
    }

    private void ofCueHeard() {
        seconds(12, 0, "bar 0 2 24;");
        seconds(23, 0, "bar 0 2 46;");
        seconds(24, 1, "bar 0 2 47;");
        seconds(24, 1, "bar 0 2 48;");
        seconds(47, 1, "bar 0 2 94;");
        seconds(48, 2, "bar 0 2 95;");
        run.of("13: HEARD as END is LENGTH, not as it is above", "cue 2376 -1 1 0 2; bar 0 2 48; open 1; take 0 5 0;"
            + "ofCue 0 8 = 2400; ofCue 0 12 = 1; sheet 0 = 5; shift 0 2377; ofCue 0 9 = 1; ofCue 0 12 = 0; sheet 0 = 0;"
            + "many 15 = 0; change 2401 1 = ARGUMENT; change 0 1; ofCue 0 12 = 0; shift 0 2377; ofCue 0 12 = 1");
        run.of("13: HEARD as it has a VALID TAKE", "cue 0 -1 1 0 2; bar 0 2 48; ofCue 0 12 = 0; open 1; take 0 5 0;"
            + "ofCue 0 11 = 1; ofCue 0 12 = 1; retime 0 0 2 48; ofCue 0 11 = 0; ofCue 0 12 = 0; take 0 5 0; take 0 5 0;"
            + "ofCue 0 11 = 2; ofCue 0 12 = 1");
        run.of("13: the greatest SECONDS", "change 0 120; cue 0 -1 1 0 2;" + CuesEdges.GREATEST_BARS
            + "open 1; take 0 5 0; ofCue 0 9 = 0; ofCue 0 12 = 105; sheet 0 = 525; many 15 = 525");
    }

    private void ofBarRefuses() {
        run.of("14: IndexOutOfBoundsException if there is no such CUE, or BAR of it", CUE_AT_100 + "cue 0 -1 1 0 0;" + """
            ofBar -1 0 0 = INDEX; ofBar 2 0 0 = INDEX; ofBar 0 -1 0 = INDEX; ofBar 0 1 0 = INDEX; ofBar 0 0 0 = 2
            ofBar 1 0 0 = INDEX; ofBar 1 -1 0 = INDEX; ofBar -2147483648 0 0 = INDEX; ofBar 2147483647 0 0 = INDEX
            ofBar 0 -2147483648 0 = INDEX; ofBar 0 2147483647 0 = INDEX
            """);
        run.of("14: IndexOutOfBoundsException if there is no such BAR of nine", "cue 0 -1 1 0 0;"
            + CuesEdges.GREATEST_BARS + "ofBar 0 9 0 = INDEX; ofBar 0 8 0 = 7; ofBar 0 8 1 = 160; ofBar 0 8 2 = 56;"
            + "ofBar 0 8 3 = 2240; ofBar 0 0 2 = 0; ofBar 0 0 3 = 0");
        run.of("14: IllegalArgumentException if what is not 0 to 3", CUE_AT_100 + """
            ofBar 0 0 -1 = ARGUMENT; ofBar 0 0 4 = ARGUMENT; ofBar 0 0 0 = 2; ofBar 0 0 1 = 40; ofBar 0 0 2 = 0
            ofBar 0 0 3 = 100; ofBar 0 0 -2147483648 = ARGUMENT; ofBar 0 0 2147483647 = ARGUMENT
            """);
        run.of("14: in the order of the document", CUE_AT_100
            + "ofBar 1 0 4 = INDEX; ofBar -1 0 -1 = INDEX; ofBar 0 1 4 = INDEX; ofBar 0 -1 -1 = INDEX");
    }

    private void beatRefuses() {
        run.of("15: IndexOutOfBoundsException if there is no such CUE, or BEAT of it", CUE_AT_100 + "cue 0 -1 1 0 0;" + """
            beat -1 0 = INDEX; beat 2 0 = INDEX; beat 0 -1 = INDEX; beat 0 2 = INDEX; beat 0 0 = 100; beat 0 1 = 110
            beat 1 0 = INDEX; beat 1 -1 = INDEX; beat -2147483648 0 = INDEX; beat 2147483647 0 = INDEX
            beat 0 -2147483648 = INDEX; beat 0 2147483647 = INDEX
            """);
        run.of("15: IndexOutOfBoundsException if there is no such BEAT of 63", "cue 2400 -1 1 0 0;"
            + CuesEdges.GREATEST_BARS + "beat 0 63 = INDEX; beat 0 62 = 4880; beat 0 0 = 2400");
        run.of("15: as there are more BEATS, and fewer", CUE_AT_100 + "bar 0 3 40; beat 0 4 = 140; beat 0 5 = INDEX;"
            + "retime 0 0 7 40; beat 0 9 = 190; beat 0 10 = INDEX; retime 0 1 2 40; beat 0 8 = 180; beat 0 9 = INDEX");
    }

    private void ofTakeRefuses() {
        run.of("16: IndexOutOfBoundsException if there is no such TAKE", CUE_AT_100 + "open 1; take 0 5 1;" + """
            ofTake -1 0 = INDEX; ofTake 1 0 = INDEX; ofTake 0 0 = 0
            ofTake -2147483648 0 = INDEX; ofTake 2147483647 0 = INDEX
            """);
        run.of("16: IndexOutOfBoundsException if there is no such TAKE of forty", CUE_AT_100 + "open 1;"
            + "take 0 5 1;".repeat(30) + "close; open 1;" + "take 0 6 2;".repeat(10)
            + "ofTake 40 0 = INDEX; ofTake 39 0 = 0; ofTake 39 2 = 2; ofTake 39 4 = 6");
        run.of("16: IllegalArgumentException if what is not 0 to 4", CUE_AT_100 + "open 1; take 0 5 -1;" + """
            ofTake 0 -1 = ARGUMENT; ofTake 0 5 = ARGUMENT; ofTake 0 0 = 0; ofTake 0 1 = 1; ofTake 0 2 = -1
            ofTake 0 3 = 1; ofTake 0 4 = 5; ofTake 0 -2147483648 = ARGUMENT; ofTake 0 2147483647 = ARGUMENT
            """);
        run.of("16: in the order of the document", "ofTake 0 5 = INDEX;" + CUE_AT_100
            + "open 1; take 0 5 -1; ofTake 1 -1 = INDEX; ofTake -1 5 = INDEX");
    }

    private void sheetRefuses() {
        run.of("17: IndexOutOfBoundsException if writer is not 0 to 3", """
            sheet -1 = INDEX; sheet 0 = 0; sheet 1 = 0; sheet 2 = 0; sheet 3 = 0; sheet 4 = INDEX
            sheet -2147483648 = INDEX; sheet 2147483647 = INDEX
            """);
    }

    private void sheetPays() {
        String three = "cue 0 -1 1 0 0; bar 0 2 48; cue 0 -1 1 1 1; bar 1 2 48; cue 0 -1 1 3 2; bar 2 2 48;";
        run.of("17: SECONDS times 1, 3 or 5 by its USE 0, 1, 2", three + "open 1; take 0 0 0; take 1 0 0; take 2 0 0;"
            + "sheet 0 = 1; sheet 1 = 3; sheet 2 = 0; sheet 3 = 5; many 15 = 9");
        run.of("17: SECONDS of each CUE are rounded down by itself", "cue 0 -1 1 2 0; bar 0 2 46; cue 0 -1 1 2 0;"
            + "bar 1 2 94; open 1; take 0 0 0; take 1 0 0; sheet 2 = 1; many 15 = 1");
        run.of("17: SECONDS are rounded down ahead of the times", "cue 0 -1 1 2 2; bar 0 2 94; open 1; take 0 0 0;"
            + "ofCue 0 8 = 47; sheet 2 = 5");
    }

    private void manyRefuses() {
        run.of("18: IllegalArgumentException if what is not 0 to 15", """
            many -1 = ARGUMENT; many 0 = 2400; many 15 = 0; many 16 = ARGUMENT
            many -2147483648 = ARGUMENT; many 2147483647 = ARGUMENT
            """);
    }

    private void manyOfSession() {
        run.of("18: the band and TIME are 0 without a SESSION", CUE_AT_100
            + "many 12 = 0; many 13 = 0; open 60; many 12 = 60; many 13 = 0; take 0 5 0; many 13 = 4; close = 240;"
            + "many 12 = 0; many 13 = 0; many 14 = 240");
    }

    private void manyOfAll() {
        run.of("18: all at once", """
            theme 300; theme 20; theme 2000
            cue 100 0 5 0 0; bar 0 2 80; cue 110 2 5 1 1; bar 1 2 48; cue 2390 1 5 2 2; bar 2 7 24
            cue 2395 -1 60 3 0 = ARGUMENT; cue 2395 -1 40 3 0; bar 3 2 24; cue 130 0 5 0 2; bar 4 2 96; cue 500 -1 5 1 1
            hit 100 0; hit 110 0; hit 134 4; hit 154 0; hit 600 9; hit 1000 1; hit 1001 1; hit 1002 0
            open 60; take 3 9 0; close = 240; change 600 -3; change 1500 8; change 1500 1; change 1500 1; change 1500 1
            open 9; take 3 9 0 = STATE; take 0 5 0; take 1 5 0; take 4 5 0; take 4 6 1; take 2 7 0; retime 0 0 2 80
            many 0 = 2408; many 1 = 5; many 2 = 8; many 3 = 1; many 4 = 4; many 5 = 3; many 6 = 6; many 7 = 2
            many 8 = 3; many 9 = 4; many 10 = 6; many 11 = 5; many 12 = 9; many 13 = 20; many 14 = 240; many 15 = 13
            close = 72; many 12 = 0; many 13 = 0; many 14 = 312; sheet 0 = 10; sheet 1 = 3; sheet 2 = 0; sheet 3 = 0
            """);
    }

    private void meanNote() {
        run.of("19: 0 without any", CUE_AT_100 + "meanNote = 0.0; open 1; meanNote = 0.0; take 0 9 0; meanNote = 9.0;"
            + "retime 0 0 2 40; meanNote = 0.0");
        run.of("19: the least and the greatest", CUE_AT_100 + "open 1; take 0 0 0; meanNote = 0.0; retime 0 0 2 40;"
            + "bar 0 2 24; take 0 99 0; take 0 99 0; meanNote = 9.0");
        run.of("19: not cut", "cue 0 -1 1 0 0; bar 0 2 24; bar 0 2 24; bar 0 2 24; open 1; take 0 1 0;"
            + "meanNote = 0.3333333333333333; take 0 1 0; take 0 980 0; meanNote = 2.111111111111111");
        run.of("19: of all BARS, not of all TAKES", "cue 0 -1 1 0 0; bar 0 2 24; cue 0 -1 1 0 0; bar 1 2 24;"
            + "bar 1 2 24; bar 1 2 24; open 1; take 0 8 0; take 1 0 0; meanNote = 2.0");
    }
}
