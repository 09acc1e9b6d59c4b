import java.math.BigInteger;
import java.util.ArrayList;
import java.util.List;

/** What the document says at the edges of promises 20 to 25: a sentence, and the runs that hold it. */
final class WouldBeEdges {
    private static final String STUDIO = "cue 0 -1 1 0 0; bar 0 2 24; bar 0 2 24; open 1;";
    /** BEATS at 100 and 140. */
    private static final String CUE_AT_100 = "cue 100 -1 1 0 0; bar 0 2 160;";

    private final Run run;
    private final Check check;

    WouldBeEdges(Run run, Check check) {
        this.run = run;
        this.check = check;
    }

    void all() {
        joinRefuses();
        joinedRefuses();
        joinWorth();
        joinOfSeveral();
        bestStartRefuses();
        bestStartReach();
        bestStartPicture();
        bestStartOfSeveral();
        bestClickRefuses();
        bestClickReach();
        bestClickOfSeveral();
        wouldMeetRefuses();
        wouldMeetMoves();
        wouldMeetVersion();
        digestWraps();
        lastCall();
    }

    private void joinRefuses() {
        run.of("20: IndexOutOfBoundsException if there is no such CUE", STUDIO + """
            join -1 = INDEX; join 1 = INDEX; join 0 = -1; join -2147483648 = INDEX; join 2147483647 = INDEX
            """);
        run.of("20: IndexOutOfBoundsException if there is no such CUE of eight",
            "cue 0 -1 1 0 0;".repeat(8) + "join 8 = INDEX; join 7 = -1");
        run.of("20: NONE, if there is no VALID TAKE", STUDIO + "join 0 = -1; take 0 0 0; join 0 = 0; retime 0 0 2 24;"
            + "join 0 = -1; cue 0 -1 1 0 0; join 1 = -1");
    }

    private void joinedRefuses() {
        run.of("21: IndexOutOfBoundsException if there is no such CUE, or BAR of it", STUDIO + "cue 0 -1 1 0 0;" + """
            joined -1 0 = INDEX; joined 2 0 = INDEX; joined 0 -1 = INDEX; joined 0 2 = INDEX
            joined 0 0 = -1; joined 0 1 = -1; joined 1 0 = INDEX; joined 1 -1 = INDEX
            joined -2147483648 0 = INDEX; joined 2147483647 0 = INDEX
            joined 0 -2147483648 = INDEX; joined 0 2147483647 = INDEX
            """);
        run.of("21: IndexOutOfBoundsException if there is no such BAR of nine", "cue 0 -1 1 0 0;" + CuesEdges.LEAST_BARS
            + "open 1; take 0 5 0; joined 0 9 = INDEX; joined 0 8 = 0; joined 0 0 = 0");
        run.of("21: NONE, if there is no VALID TAKE", STUDIO + "joined 0 0 = -1; take 0 0 0; joined 0 0 = 0;"
            + "joined 0 1 = 0; retime 0 0 2 24; joined 0 0 = -1; joined 0 1 = -1");
    }

    private void joinWorth() {
        run.of("20: the least WORTH", STUDIO + "take 0 0 -2; take 0 0 2; join 0 = 0; joined 0 0 = 0; joined 0 1 = 0");
        run.of("20: the greatest WORTH", "cue 0 -1 1 0 0;" + CuesEdges.LEAST_BARS
            + "open 1; take 0 0 0; take 0 999999999 2; join 0 = 81; joined 0 0 = 1; joined 0 8 = 1");
        run.of("20: less 4, as the PUSHES are the same", STUDIO + "take 0 9 2; take 0 90 2; join 0 = 14;"
            + "joined 0 0 = 0; joined 0 1 = 1");
        run.of("20: less 4 and 2", STUDIO + "take 0 9 2; take 0 90 1; join 0 = 12; joined 0 0 = 0; joined 0 1 = 1");
        run.of("20: less 4 and 4", STUDIO + "take 0 9 -1; take 0 90 1; join 0 = 10; joined 0 0 = 0; joined 0 1 = 1");
        run.of("20: less 4 and 6 is too much", STUDIO + "take 0 9 -2; take 0 90 1; join 0 = 9; joined 0 1 = 0");
        run.of("20: less 4 and 8 is too much", STUDIO + "take 0 90 2; take 0 9 -2; join 0 = 9; joined 0 0 = 0");
        run.of("20: nothing less for the first BAR", "cue 0 -1 1 0 0; bar 0 2 24; open 1; take 0 1 -2; take 0 2 2;"
            + "join 0 = 2; joined 0 0 = 1");
    }

    private void joinOfSeveral() {
        run.of("20: of several the smallest TAKE of the first BAR", STUDIO + "take 0 0 0; take 0 77 0; take 0 77 0;"
            + "join 0 = 14; joined 0 0 = 1; joined 0 1 = 1");
        run.of("20: of several again by the second BAR", STUDIO + "take 0 9 0; take 0 40 0; join 0 = 9;"
            + "joined 0 0 = 0; joined 0 1 = 0");
        run.of("20: of several by the first BAR, though the second one is greater", STUDIO
            + "take 0 9 0; take 0 45 0; take 0 90 0; take 0 90 0; join 0 = 14; joined 0 0 = 0; joined 0 1 = 2");
        run.of("20: of several again by the third BAR", "cue 0 -1 1 0 0; bar 0 2 24; bar 0 2 24; bar 0 2 24; open 1;"
            + "take 0 99 0; take 0 900 0; take 0 900 0; join 0 = 23; joined 0 0 = 0; joined 0 1 = 0; joined 0 2 = 1");
        // 1 and 1 and 1, or 1 and 0 and 0: 14 both
        run.of("20: the second BAR is asked ahead of the third", "cue 0 -1 1 0 0; bar 0 2 24; bar 0 2 24; bar 0 2 24;"
            + "open 1; take 0 450 0; take 0 59 0; join 0 = 14; joined 0 0 = 1; joined 0 1 = 0; joined 0 2 = 0");
    }

    private void bestStartRefuses() {
        run.of("22: IndexOutOfBoundsException if there is no such CUE", CUE_AT_100 + """
            bestStart -1 = INDEX; bestStart 1 = INDEX; bestStart 0 = 100
            bestStart -2147483648 = INDEX; bestStart 2147483647 = INDEX
            """);
        run.of("22: IndexOutOfBoundsException if there is no such CUE of eight",
            "cue 7 -1 1 0 0;".repeat(8) + "bestStart 8 = INDEX; bestStart 7 = 7");
    }

    private void bestStartReach() {
        run.of("22: at most 24 from that of now: 24 ahead", CUE_AT_100 + "hit 76 0; bestStart 0 = 76");
        run.of("22: at most 24 from that of now: not 25 ahead", CUE_AT_100 + "hit 75 0; bestStart 0 = 100");
        run.of("22: at most 24 from that of now: 24 behind", CUE_AT_100 + "hit 164 0; bestStart 0 = 124");
        run.of("22: at most 24 from that of now: not 25 behind", CUE_AT_100 + "hit 165 0; bestStart 0 = 100");
    }

    private void bestStartPicture() {
        String cue = "cue %d -1 1 0 0; bar 0 2 160;";
        run.of("22: 0 to LENGTH: down to 0", cue.formatted(24) + "hit 0 0; bestStart 0 = 0");
        // with 10 below 0 the second BEAT would meet it, the first one with 30
        run.of("22: 0 to LENGTH: not below 0", cue.formatted(5) + "hit 30 0; bestStart 0 = 5; hit 29 0; bestStart 0 = 29");
        run.of("22: 0 to LENGTH: not below 0, from 0", cue.formatted(0) + "hit 39 0; bestStart 0 = 0; hit 41 0;"
            + "bestStart 0 = 1");
        run.of("22: 0 to LENGTH: up to the last FRAME", cue.formatted(2380)
            + "hit 2399 0; bestStart 0 = 2399; shift 0 2400; bestStart 0 = 2399");
        run.of("22: 0 to LENGTH: LENGTH itself", cue.formatted(2400)
            + "bestStart 0 = 2400; hit 2391 9; bestStart 0 = 2400; hit 2399 0; bestStart 0 = 2399");
        run.of("22: 0 to LENGTH: of the shortest picture", PictureEdges.LEAST_PICTURE
            + "cue 24 -1 1 0 0; bar 0 2 24; hit 0 0; hit 23 0; bestStart 0 = 23; shift 0 1; bestStart 0 = 0");
        run.of("22: without BARS that of now", "cue 50 -1 1 0 0; hit 51 0; bestStart 0 = 50");
        run.of("22: without HITS that of now", CUE_AT_100 + "bestStart 0 = 100");
    }

    private void bestStartOfSeveral() {
        run.of("22: that of now, if no other is better", CUE_AT_100 + "hit 100 0; hit 99 0; bestStart 0 = 100");
        run.of("22: of several the nearest one: ahead", CUE_AT_100 + "hit 93 0; hit 108 0; bestStart 0 = 93");
        run.of("22: of several the nearest one: behind", CUE_AT_100 + "hit 92 0; hit 107 0; bestStart 0 = 107");
        run.of("22: then the smaller one", CUE_AT_100 + "hit 92 0; hit 108 0; bestStart 0 = 92");
        run.of("22: then the smaller one: 1 away", CUE_AT_100 + "hit 99 0; hit 101 0; bestStart 0 = 99");
        run.of("22: then the smaller one: 24 away", CUE_AT_100 + "hit 76 0; hit 164 0; bestStart 0 = 76");
        run.of("22: most ahead of the nearest", CUE_AT_100 + "hit 99 0; hit 164 0; hit 164 0; bestStart 0 = 124");
        run.of("22: what other CUES meet counts", CUE_AT_100 + "cue 99 -1 1 0 0; bar 1 2 24; hit 99 0; hit 164 0;"
            + "bestStart 0 = 124; hit 118 0; bestStart 1 = 99; hit 118 0; bestStart 1 = 112");
        run.of("22: those that are GONE do not count", CUE_AT_100 + "hit 99 0; change 99 -1; bestStart 0 = 99;"
            + "shift 0 98; bestStart 0 = 98");
    }

    private void bestClickRefuses() {
        run.of("23: IndexOutOfBoundsException if there is no such CUE, or BAR of it", CUE_AT_100 + "cue 0 -1 1 0 0;" + """
            bestClick -1 0 = INDEX; bestClick 2 0 = INDEX; bestClick 0 -1 = INDEX; bestClick 0 1 = INDEX
            bestClick 0 0 = 160; bestClick 1 0 = INDEX; bestClick 1 -1 = INDEX
            bestClick -2147483648 0 = INDEX; bestClick 2147483647 0 = INDEX
            bestClick 0 -2147483648 = INDEX; bestClick 0 2147483647 = INDEX
            """);
        run.of("23: IndexOutOfBoundsException if there is no such BAR of nine", "cue 0 -1 1 0 0;" + CuesEdges.LEAST_BARS
            + "bestClick 0 9 = INDEX; bestClick 0 8 = 24");
    }

    private void bestClickReach() {
        // the fifth BEAT is as many FRAMES behind START as CLICK tells
        String fifth = "cue 100 -1 1 0 0; bar 0 5 %d;";
        run.of("23: 24 to 160: 24 itself, from the greatest", fifth.formatted(160) + "hit 106 0; hit 112 0; hit 118 0;"
            + "hit 124 0; bestClick 0 0 = 24");
        run.of("23: 24 to 160: 24 itself, from 25", fifth.formatted(25) + "hit 124 0; bestClick 0 0 = 24");
        run.of("23: 24 to 160: not 23", "cue 100 -1 1 0 0; bar 0 2 25; hit 105 0; bestClick 0 0 = 25;"
            + "retime 0 0 2 24; bestClick 0 0 = 24");
        run.of("23: 24 to 160: 160 itself, from the least", fifth.formatted(24) + "hit 260 0; bestClick 0 0 = 160");
        run.of("23: 24 to 160: 160 itself, from 159", fifth.formatted(159) + "hit 260 0; bestClick 0 0 = 160");
        run.of("23: 24 to 160: not 161", fifth.formatted(160) + "hit 261 0; bestClick 0 0 = 160; retime 0 0 5 100;"
            + "bestClick 0 0 = 100");
        run.of("23: of the last BAR only what is behind its first BEAT moves", "cue 100 -1 1 0 0; bar 0 2 40;"
            + "bar 0 2 40; hit 121 0; bestClick 0 1 = 40; bestClick 0 0 = 42; hit 131 0; bestClick 0 1 = 44");
        run.of("23: without HITS that of now", fifth.formatted(24) + "bestClick 0 0 = 24; retime 0 0 5 160;"
            + "bestClick 0 0 = 160");
    }

    private void bestClickOfSeveral() {
        String fifth = "cue 100 -1 1 0 0; bar 0 5 90;";
        run.of("23: that of now, if no other is better", fifth + "hit 190 0; hit 189 0; bestClick 0 0 = 90");
        run.of("23: of several the nearest one: ahead", fifth + "hit 187 0; hit 194 0; bestClick 0 0 = 87");
        run.of("23: of several the nearest one: behind", fifth + "hit 186 0; hit 193 0; bestClick 0 0 = 93");
        run.of("23: then the smaller one", fifth + "hit 187 0; hit 193 0; bestClick 0 0 = 87");
        run.of("23: then the smaller one: 1 away", fifth + "hit 189 0; hit 191 0; bestClick 0 0 = 89");
        run.of("23: most ahead of the nearest", fifth + "hit 189 0; hit 260 0; hit 260 0; bestClick 0 0 = 160");
        run.of("23: what other CUES meet counts", fifth + "cue 189 -1 1 0 0; bar 1 2 24; hit 189 0; hit 185 0;"
            + "bestClick 0 0 = 85");
        run.of("23: those that are GONE do not count", fifth + "hit 189 0; change 189 -1; bestClick 0 0 = 90");
    }

    private void wouldMeetRefuses() {
        String book = CUE_AT_100 + "hit 100 0;";
        run.of("24: as change(), if frame is not 0 to LENGTH", book + """
            wouldMeet -1 1 = ARGUMENT; wouldMeet 2401 1 = ARGUMENT; wouldMeet 0 1 = 1; wouldMeet 2400 1 = 1
            wouldMeet -1 -1 = ARGUMENT; wouldMeet 2401 -1 = ARGUMENT; wouldMeet 0 -1 = 1
            wouldMeet -2147483648 1 = ARGUMENT; wouldMeet 2147483647 1 = ARGUMENT
            wouldMeet -2147483648 -1 = ARGUMENT; wouldMeet 2147483647 -1 = ARGUMENT
            """);
        run.of("24: as change(), if n is 0, or not -999 to 999", book + """
            wouldMeet 7 0 = ARGUMENT; wouldMeet 7 -1000 = ARGUMENT; wouldMeet 7 -999 = 0; wouldMeet 7 1000 = ARGUMENT
            wouldMeet 7 999 = 1; wouldMeet 7 -1 = 1; wouldMeet 7 1 = 1
            wouldMeet 7 -2147483648 = ARGUMENT; wouldMeet 7 2147483647 = ARGUMENT
            """);
        run.of("24: as change(), if as many are not there", book + """
            wouldMeet 2400 -1 = ARGUMENT; wouldMeet 2399 -1 = 1; wouldMeet 2391 -10 = ARGUMENT; wouldMeet 2390 -10 = 1
            wouldMeet 1402 -999 = ARGUMENT; wouldMeet 1401 -999 = 1
            """);
        run.of("24: as change(), if less than 24 would be left", book + "change 1401 -999; change 1022 -379;"
            + "wouldMeet 0 -999 = ARGUMENT; wouldMeet 1 -999 = ARGUMENT; wouldMeet 0 -998 = 0; change 0 -998;"
            + "wouldMeet 0 -1 = ARGUMENT; wouldMeet 23 -1 = ARGUMENT; wouldMeet 24 1 = 0");
    }

    private void wouldMeetMoves() {
        String book = CUE_AT_100 + "hit 120 0;";
        run.of("24: FRAMES put in ahead of both", book + "wouldMeet 0 20 = 0; wouldMeet 100 20 = 0");
        run.of("24: FRAMES put in between", book + "wouldMeet 101 20 = 1; wouldMeet 120 20 = 1; wouldMeet 101 19 = 0;"
            + "wouldMeet 101 21 = 0");
        run.of("24: FRAMES put in behind both", book + "wouldMeet 121 20 = 0; wouldMeet 2400 20 = 0");
        run.of("24: FRAMES taken out between", book
            + "wouldMeet 100 -20 = 1; wouldMeet 100 -19 = 0; wouldMeet 100 -21 = 0; wouldMeet 101 -19 = 0");
        run.of("24: the START among them is a", book + "wouldMeet 95 -25 = 1; wouldMeet 81 -39 = 1; wouldMeet 80 -40 = 1");
        run.of("24: the HIT among them is GONE", "cue 100 -1 1 0 0; bar 0 2 160; hit 100 0; wouldMeet 100 -1 = 0;"
            + "wouldMeet 99 -2 = 0; wouldMeet 99 -1 = 1; wouldMeet 101 -1 = 1");
        run.of("24: one that is GONE is not MET", "cue 100 -1 1 0 0; bar 0 2 160; hit 100 0; change 100 -1;"
            + "wouldMeet 0 1 = 0; wouldMeet 0 -1 = 0; wouldMeet 2399 1 = 0");
        run.of("24: at the TOLERANCE", CUE_AT_100 + "hit 120 9; wouldMeet 101 10 = 0; wouldMeet 101 11 = 1;"
            + "wouldMeet 101 29 = 1; wouldMeet 101 30 = 0; wouldMeet 101 -10 = 0; wouldMeet 101 -11 = 1");
        run.of("24: without HITS, and without BEATS", "wouldMeet 0 1 = 0; hit 5 9; wouldMeet 0 1 = 0; cue 5 -1 1 0 0;"
            + "wouldMeet 0 1 = 0");
        run.of("24: nothing is changed", book + "wouldMeet 101 20 = 1; ofHit 0 0 = 120; ofCue 0 0 = 100; ofCue 0 5 = 1;"
            + "many 0 = 2400; many 1 = 0; many 4 = 0; change 101 20 = 1; many 4 = 1");
    }

    private void wouldMeetVersion() {
        run.of("24: also with a VERSION of 20", CUE_AT_100 + "hit 120 0;" + "change 2400 1;".repeat(20)
            + "many 1 = 20; change 101 20 = STATE; wouldMeet 101 20 = 1; wouldMeet 100 -20 = 1;"
            + "wouldMeet 101 0 = ARGUMENT; wouldMeet -1 20 = ARGUMENT; many 1 = 20");
    }

    /** The checksum of these numbers as the document tells it, with no bound, and only then cut to 64 bits. */
    private static BigInteger unbound(List<Long> numbers) {
        BigInteger d = BigInteger.valueOf(58231);
        for (long v : numbers) {
            d = d.multiply(BigInteger.valueOf(31)).add(BigInteger.valueOf(v));
        }
        return d;
    }

    private void wraps(String title, Clickbook book) {
        BigInteger d = unbound(numbersOf(book));
        check.isTrue("25: " + title + ": it is greater than 64 bits hold", d.bitLength() > 64);
        check.same("25: " + title + ": d wraps around as a 64-bit integer", book.digest(), d.longValue());
    }

    private static List<Long> numbersOf(Clickbook book) {
        List<Long> numbers = new ArrayList<>();
        for (int what = 0; what <= 15; what++) {
            numbers.add((long) book.many(what));
        }
        for (int hit = 0; hit < book.many(2); hit++) {
            for (int what = 0; what <= 6; what++) {
                numbers.add((long) book.ofHit(hit, what));
            }
        }
        for (int cue = 0; cue < book.many(6); cue++) {
            addCue(numbers, book, cue);
        }
        for (int take = 0; take < book.many(10); take++) {
            for (int what = 0; what <= 4; what++) {
                numbers.add((long) book.ofTake(take, what));
            }
        }
        for (int writer = 0; writer <= 3; writer++) {
            numbers.add((long) book.sheet(writer));
        }
        numbers.add((long) book.wouldMeet(book.many(0) / 2, 24));
        if (book.many(6) > 0) {
            numbers.add((long) book.bestStart(0));
        }
        return numbers;
    }

    private static void addCue(List<Long> numbers, Clickbook book, int cue) {
        for (int what = 0; what <= 12; what++) {
            numbers.add((long) book.ofCue(cue, what));
        }
        for (int bar = 0; bar < book.ofCue(cue, 6); bar++) {
            for (int what = 0; what <= 3; what++) {
                numbers.add((long) book.ofBar(cue, bar, what));
            }
            numbers.add((long) book.joined(cue, bar));
        }
        numbers.add((long) book.join(cue));
    }

    private void digestWraps() {
        Clickbook book = new Clickbook();
        List<Long> empty = new ArrayList<>(List.of(2400L));
        for (int k = 0; k < 15 + 4 + 1; k++) {
            empty.add(0L);
        }
        check.same("25: of a new object", book.digest(), unbound(empty).longValue());
        wraps("a new object", book);
        book.hit(1200, 3);
        wraps("a HIT without BEATS (NONE is -1)", book);
        book.cue(1190, -1, 1, 0, 2);
        wraps("a CUE without BARS", book);
        book.bar(0, 4, 50);
        book.bar(0, 3, 33);
        wraps("a CUE without TAKES", book);
        book.open(5);
        book.take(0, 90, -2);
        book.take(0, 9, -2);
        wraps("TAKES of two BARS", book);
        book.change(1201, 1);
        wraps("an odd LENGTH: half of it is rounded down", book);
        Clickbook odd = new Clickbook();
        odd.change(0, 1);
        odd.hit(1200, 0);
        odd.cue(1199, -1, 1, 0, 2);
        odd.bar(0, 2, 100);
        check.same("25: LENGTH / 2 is 1200, and the HIT moves to the BEAT", odd.wouldMeet(1200, 24), 1);
        check.same("25: 1201 would be another one", odd.wouldMeet(1201, 24), 0);
        wraps("a HIT at half of an odd LENGTH", odd);
    }

    private void lastCall() {
        Clickbook book = new Clickbook();
        book.hit(100, 9);
        book.cue(95, -1, 1, 0, 2);
        book.bar(0, 2, 24);
        for (int call = 4; call < 511; call++) {
            book.shift(0, call % 2 == 0 ? 95 : 80);
        }
        check.same("the 511th call of an object tells a HIT", book.hit(95, 0), 1);
        check.same("and the 512th one is answered as the first ones", book.many(4), 2);
    }
}
