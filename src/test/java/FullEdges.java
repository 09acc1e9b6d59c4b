/** An object that is as full as the document allows, in all at once, and one more of each. */
final class FullEdges {
    private final Run run;

    FullEdges(Run run) {
        this.run = run;
    }

    void all() {
        fullRefuses();
        fullRefusesInOrder();
        fullAnswers();
        fullGoesOn();
        fullOfTakesOfAll();
    }

    private static String full() {
        StringBuilder rows = new StringBuilder();
        for (int i = 0; i < 12; i++) {
            rows.append("hit ").append(200 * i + 60).append(' ').append(i % 10).append(';');
        }
        for (int i = 0; i < 4; i++) {
            rows.append("theme ").append(800 * i).append(';');
        }
        for (int i = 0; i < 8; i++) {
            rows.append("cue ").append(300 * i).append(' ').append(i % 5 - 1).append(' ').append(5 * i + 5).append(' ')
                .append(i % 4).append(' ').append(i % 3).append(';').append(bars(i));
        }
        rows.append("change 2400 1;".repeat(20)).append("open 60;");
        for (int i = 0; i < 40; i++) {
            rows.append(i == 24 ? "close; open 60;" : "").append("take ").append(i % 8).append(' ')
                .append(i * 24691357 % 999999999).append(' ').append(i % 5 - 2).append(';');
        }
        return rows.toString();
    }

    private static String bars(int cue) {
        StringBuilder rows = new StringBuilder();
        for (int bar = 0; bar < 9; bar++) {
            rows.append("bar ").append(cue).append(' ').append(2 + (bar + cue) % 6).append(' ')
                .append(24 + 17 * bar % 137).append(';');
        }
        return rows.toString();
    }

    private void fullRefuses() {
        run.of("a full object: one more of each", full() + """
            many 1 = 20; many 2 = 12; many 5 = 4; many 6 = 8; many 10 = 40; many 12 = 60
            hit 5 1 = STATE; theme 5 = STATE; cue 5 0 1 0 0 = STATE; bar 0 2 24 = STATE; bar 7 2 24 = STATE
            take 0 0 0 = STATE; take 7 0 0 = STATE; open 60 = STATE; change 2420 1 = STATE; change 0 -1 = STATE
            """);
    }

    private void fullRefusesInOrder() {
        run.of("a full object: in the order of the document", full() + """
            hit -1 1 = ARGUMENT; hit 5 10 = ARGUMENT; theme 2421 = ARGUMENT; change 0 0 = ARGUMENT
            cue 5 4 1 0 0 = INDEX; cue 5 3 41 0 0 = ARGUMENT; bar 8 2 24 = INDEX; bar 7 1 24 = ARGUMENT
            take 8 0 0 = INDEX; take 7 1000000000 0 = ARGUMENT; open 61 = ARGUMENT
            """);
    }

    private void fullAnswers() {
        run.of("a full object: what is asked, at the last numbers and behind them", full() + """
            ofHit 11 0 = 2260; ofHit 12 0 = INDEX; ofCue 7 0 = 2100; ofCue 8 0 = INDEX; ofBar 7 8 0; ofBar 7 9 0 = INDEX
            ofTake 39 0 = 7; ofTake 39 1 = 29; ofTake 39 3 = 1; ofTake 40 0 = INDEX; ofCue 7 5 = 29; ofCue 7 6 = 9
            ofCue 7 11 = 5; many 11 = 40; many 14; many 15; meanNote; sheet 0; sheet 1; sheet 2; sheet 3; digest
            join 0; join 7; join 8 = INDEX; joined 7 0; joined 7 8; joined 7 9 = INDEX; bestStart 7; bestStart 8 = INDEX
            bestClick 7 8; bestClick 7 9 = INDEX; bestClick 8 0 = INDEX; wouldMeet 1210 24; wouldMeet 0 0 = ARGUMENT
            """);
    }

    private void fullGoesOn() {
        run.of("a full object: what may still be told", full() + """
            retime 7 8 2 24; shift 7 2420; shift 7 0; close; open 1 = 40; take 0 0 0 = STATE; close = 0; close = STATE
            many 10 = 40; many 11 = 35; digest
            """);
    }

    private void fullOfTakesOfAll() {
        run.of("a full object: forty TAKES of one CUE of nine BARS", "cue 0 -1 1 0 0;" + CuesEdges.LEAST_BARS + "open 1;"
            + "take 0 0 -2;".repeat(30) + "close; open 1;" + "take 0 0 2;".repeat(8)
            + "take 0 900000000 2; take 0 999999999 2; join 0 = 81; joined 0 0 = 39; joined 0 8 = 39; ofCue 0 11 = 40");
    }
}
