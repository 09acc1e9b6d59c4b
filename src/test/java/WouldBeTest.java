/** Promises 20 to 25: join, joined, bestStart, bestClick, wouldMeet, digest. */
final class WouldBeTest {
    private static final Check check = new Check();

    public static void main(String[] args) {
        joinOfOne();
        joinCosts();
        joinOfSeveral();
        joinOfOthers();
        joinOfMost();
        joinRefuses();
        bestStart();
        bestStartAtTheEdges();
        bestStartWithOthers();
        bestClick();
        bestClickAtTheEdges();
        bestRefuse();
        wouldMeet();
        wouldMeetAtTheEdges();
        wouldMeetRefuses();
        digest();
        check.end("WouldBeTest");
    }

    /** A book with an open SESSION and one CUE of that many BARS. */
    private static Clickbook studio(int bars) {
        Clickbook book = new Clickbook();
        Check.cue(book, 0);
        for (int i = 0; i < bars; i++) {
            book.bar(0, 2, 24);
        }
        book.open(1);
        return book;
    }

    private static void sameJoin(String what, Clickbook book, int worth, int... takes) {
        check.asked("20: " + what, worth, book, b -> b.join(0));
        for (int bar = 0; bar < takes.length; bar++) {
            int asked = bar;
            check.asked("21: " + what + ", BAR " + bar, takes[bar], book, b -> b.joined(0, asked));
        }
    }

    private static void joinOfOne() {
        sameJoin("without BARS", studio(0), -1);
        Clickbook book = studio(3);
        sameJoin("without TAKES", book, -1, -1, -1, -1);
        book.take(0, 0, 2);
        sameJoin("nothing but 0", book, 0, 0, 0, 0);
        book.take(0, 123, 2);
        sameJoin("another one", book, 6, 1, 1, 1);
        book.retime(0, 0, 2, 24);
        sameJoin("none is VALID", book, -1, -1, -1, -1);
        book.take(0, 0, 0);
        sameJoin("the last one is VALID", book, 0, 2, 2, 2);
    }

    private static void joinCosts() {
        Clickbook book = studio(2);
        book.take(0, 9, 0);
        book.take(0, 90, 0);
        sameJoin("for 4", book, 14, 0, 1);
        Clickbook one = studio(2);
        one.take(0, 9, 1);
        one.take(0, 90, 0);
        sameJoin("for 6", one, 12, 0, 1);
        Clickbook most = studio(2);
        most.take(0, 9, -2);
        most.take(0, 90, 2);
        sameJoin("for 12: not worth it", most, 9, 0, 0);
        Clickbook same = studio(3);
        same.take(0, 909, -2);
        same.take(0, 90, -2);
        sameJoin("there and back for 8", same, 19, 0, 1, 0);
        Clickbook other = studio(3);
        other.take(0, 959, -1);
        other.take(0, 90, -2);
        sameJoin("not there and back", other, 23, 0, 0, 0);
    }

    private static void joinOfSeveral() {
        Clickbook book = studio(2);
        book.take(0, 55, 0);
        book.take(0, 55, 1);
        sameJoin("of several the first", book, 10, 0, 0);
        Clickbook tie = studio(2);
        tie.take(0, 9, 0);
        tie.take(0, 45, 0);
        tie.take(0, 90, 0);
        // 0 and 0: 9; 0 and 1: 9 + 4 - 4; 0 and 2: 9 + 9 - 4; 1 and 2: 5 + 9 - 4
        sameJoin("the greatest", tie, 14, 0, 2);
        Clickbook second = studio(2);
        second.take(0, 5, 0);
        second.take(0, 49, 0);
        second.take(0, 49, 0);
        // 1 and 1 as 2 and 2: 13
        sameJoin("of several by the first BAR", second, 13, 1, 1);
        Clickbook behind = studio(3);
        behind.take(0, 9, 0);
        behind.take(0, 990, 0);
        behind.take(0, 990, 0);
        sameJoin("of several by the second BAR", behind, 23, 0, 1, 1);
        Clickbook stay = studio(2);
        stay.take(0, 9, 0);
        stay.take(0, 40, 0);
        sameJoin("4 for 4: the smaller number stays", stay, 9, 0, 0);
        Clickbook go = studio(2);
        go.take(0, 40, 0);
        go.take(0, 9, 0);
        // 1 and 0: 9 + 4 - 4; 1 and 1: 9
        sameJoin("4 for 4: the smaller number behind", go, 9, 1, 0);
    }

    private static void joinOfOthers() {
        Clickbook book = studio(2);
        Check.cue(book, 0, 2, 24, 2, 24);
        book.take(1, 99, 0);
        sameJoin("a TAKE of another CUE", book, -1, -1, -1);
        book.take(0, 11, 0);
        sameJoin("the TAKE of this CUE", book, 2, 1, 1);
        book.take(1, 0, 0);
        book.take(0, 88, 0);
        sameJoin("the TAKES of this CUE", book, 16, 3, 3);
        check.same("20: of the other CUE", book.join(1), 18);
        check.same("21: of the other CUE", book.joined(1, 1), 0);
    }

    private static void joinOfMost() {
        Clickbook book = studio(9);
        for (int i = 0; i < 30; i++) {
            book.take(0, 111111111 * (i % 5), i % 5 - 2);
        }
        book.close();
        book.open(1);
        for (int i = 30; i < 39; i++) {
            book.take(0, 0, 0);
        }
        book.take(0, 900000000, 2);
        sameJoin("forty TAKES", book, 4 * 8 + 9 - 4, 4, 4, 4, 4, 4, 4, 4, 4, 39);
    }

    private static void joinRefuses() {
        Clickbook none = new Clickbook();
        check.refused("20: without CUES", Check.INDEX, none, b -> b.join(0));
        check.refused("21: without CUES", Check.INDEX, none, b -> b.joined(0, 0));
        Clickbook book = studio(2);
        Check.cue(book, 0);
        check.refused("20: cue -1", Check.INDEX, book, b -> b.join(-1));
        check.refused("20: cue 2", Check.INDEX, book, b -> b.join(2));
        check.refused("21: cue -1", Check.INDEX, book, b -> b.joined(-1, 0));
        check.refused("21: cue 2", Check.INDEX, book, b -> b.joined(2, 0));
        check.refused("21: bar -1", Check.INDEX, book, b -> b.joined(0, -1));
        check.refused("21: bar 2", Check.INDEX, book, b -> b.joined(0, 2));
        check.refused("21: most bar", Check.INDEX, book, b -> b.joined(0, Integer.MAX_VALUE));
        check.refused("21: without BARS", Check.INDEX, book, b -> b.joined(1, 0));
        check.same("20: without BARS", book.join(1), -1);
    }

    /** One CUE of two BEATS, 40 FRAMES apart, at 100, and HITS with TOLERANCE 0. */
    private static void bestStartOf(String what, int due, int... frames) {
        Clickbook book = new Clickbook();
        Check.cue(book, 100, 2, 160);
        for (int frame : frames) {
            book.hit(frame, 0);
        }
        check.asked("22: " + what, due, book, b -> b.bestStart(0));
    }

    private static void bestStart() {
        bestStartOf("without HITS", 100);
        bestStartOf("met as it is", 100, 100);
        bestStartOf("1 ahead", 99, 99);
        bestStartOf("1 behind", 101, 101);
        bestStartOf("24 behind", 124, 164);
        bestStartOf("25 behind", 100, 165);
        bestStartOf("24 ahead", 76, 76);
        bestStartOf("25 ahead", 100, 75);
        bestStartOf("by the second BEAT", 110, 150);
        bestStartOf("more HITS", 90, 101, 90, 130);
        bestStartOf("as many: the nearer one", 97, 97, 104);
        bestStartOf("as many: the nearer one behind", 103, 96, 103);
        bestStartOf("as many and as near: the smaller one", 95, 95, 105);
        bestStartOf("that of now", 100, 100, 99);
        Clickbook empty = new Clickbook();
        empty.hit(101, 0);
        Check.cue(empty, 100);
        check.same("22: without BARS", empty.bestStart(0), 100);
        Clickbook wide = new Clickbook();
        wide.hit(110, 4);
        Check.cue(wide, 100, 2, 160);
        check.same("22: by the TOLERANCE", wide.bestStart(0), 106);
    }

    private static void bestStartAtTheEdges() {
        Clickbook low = new Clickbook();
        low.hit(0, 0);
        Check.cue(low, 5, 2, 160);
        check.same("22: down to 0", low.bestStart(0), 0);
        Clickbook below = new Clickbook();
        below.hit(30, 0);
        Check.cue(below, 5, 2, 160);
        check.same("22: not below 0", below.bestStart(0), 5);
        Clickbook high = new Clickbook();
        high.hit(2399, 0);
        Check.cue(high, 2390, 2, 24);
        check.same("22: up to LENGTH", high.bestStart(0), 2393);
        Clickbook last = new Clickbook();
        last.hit(2399, 0);
        last.change(2399, -1);
        Check.cue(last, 2390, 2, 24);
        check.same("22: one that is GONE", last.bestStart(0), 2390);
        Clickbook moved = new Clickbook();
        moved.hit(2398, 9);
        Check.cue(moved, 2376, 2, 24);
        // 2383 is as near as it needs to be by its second BEAT
        check.same("22: by the second BEAT", moved.bestStart(0), 2383);
    }

    private static void bestStartWithOthers() {
        Clickbook book = new Clickbook();
        book.hit(110, 0);
        book.hit(95, 0);
        Check.cue(book, 100, 2, 160);
        Check.cue(book, 95, 2, 24);
        check.same("22: what another CUE meets is MET anyway", book.bestStart(0), 110);
        check.asked("22: it meets one already", 95, book, b -> b.bestStart(1));
        Clickbook stay = new Clickbook();
        stay.hit(110, 0);
        Check.cue(stay, 100, 2, 160);
        Check.cue(stay, 110, 2, 160);
        check.same("22: MET by another CUE: no need to move", stay.bestStart(0), 100);
        check.same("22: nor to move away", stay.bestStart(1), 110);
    }

    private static void bestClick() {
        Clickbook book = new Clickbook();
        int cue = Check.cue(book, 100, 2, 40, 2, 40);
        check.same("23: without HITS", book.bestClick(cue, 0), 40);
        book.hit(132, 0);
        // BEATS at 100, 110, 120, 130: (40 + 40 + c) / 4 is 32 from 48 on; (c + c + 40) / 4 from 44 on
        check.asked("23: of the second BAR", 48, book, b -> b.bestClick(0, 1));
        check.asked("23: of the first BAR", 44, book, b -> b.bestClick(0, 0));
        book.hit(109, 0);
        // 109 wants 36 to 39, 132 wants 44 and 45: as many, and the nearest one is 39
        check.asked("23: as many, the nearest one", 39, book, b -> b.bestClick(0, 0));
        book.hit(120, 0);
        check.asked("23: as many as now", 40, book, b -> b.bestClick(0, 0));
        Clickbook tie = new Clickbook();
        Check.cue(tie, 100, 2, 42);
        tie.hit(109, 0);
        tie.hit(111, 0);
        // 39 and 44: 3 and 2 away
        check.same("23: the nearer one", tie.bestClick(0, 0), 44);
        tie.retime(0, 0, 2, 41);
        // 39 and 44: 2 and 3 away
        check.same("23: the nearer one, smaller", tie.bestClick(0, 0), 39);
        Clickbook even = new Clickbook();
        Check.cue(even, 100, 3, 41);
        even.hit(119, 0);
        even.hit(121, 0);
        // the third BEAT is at 119 with 38 and 39, at 121 with 42 and 43: 39 is 2 away, 42 is 1
        check.same("23: the nearer one by the third BEAT", even.bestClick(0, 0), 42);
        Clickbook alike = new Clickbook();
        Check.cue(alike, 100, 3, 40);
        alike.hit(119, 0);
        alike.hit(120, 0);
        check.same("23: that of now", alike.bestClick(0, 0), 40);
        Clickbook both = new Clickbook();
        Check.cue(both, 100, 5, 60);
        // the fifth BEAT is at 100 + c: 55 and 65 are as far away
        both.hit(155, 0);
        both.hit(165, 0);
        check.same("23: as many and as near: the smaller one", both.bestClick(0, 0), 55);
    }

    private static void bestClickAtTheEdges() {
        Clickbook book = new Clickbook();
        Check.cue(book, 0, 5, 160);
        book.hit(24, 0);
        // 96 to 99 by the second BEAT, 48 and 49 by the third, 32 and 33, 24
        check.same("23: the nearest one from above", book.bestClick(0, 0), 99);
        Clickbook least = new Clickbook();
        Check.cue(least, 0, 5, 25, 2, 24);
        least.hit(30, 0);
        // 24 by the first BEAT of the BAR behind, 30 by the fifth
        check.same("23: down to 24", least.bestClick(0, 0), 24);
        Clickbook low = new Clickbook();
        Check.cue(low, 0, 2, 160);
        low.hit(6, 0);
        check.same("23: one of several down there", low.bestClick(0, 0), 27);
        low.retime(0, 0, 2, 24);
        check.same("23: MET at 24", low.bestClick(0, 0), 24);
        Clickbook below = new Clickbook();
        Check.cue(below, 0, 2, 30);
        below.hit(5, 0);
        check.same("23: not below 24", below.bestClick(0, 0), 30);
        Clickbook high = new Clickbook();
        Check.cue(high, 0, 2, 24);
        high.hit(40, 0);
        check.same("23: up to 160", high.bestClick(0, 0), 160);
        Clickbook above = new Clickbook();
        Check.cue(above, 0, 2, 24);
        above.hit(41, 0);
        check.same("23: not above 160", above.bestClick(0, 0), 24);
        Clickbook other = new Clickbook();
        Check.cue(other, 0, 2, 24);
        Check.cue(other, 20, 2, 24);
        other.hit(20, 0);
        check.same("23: MET by another CUE", other.bestClick(0, 0), 24);
        Clickbook gone = new Clickbook();
        Check.cue(gone, 0, 2, 24);
        gone.hit(20, 0);
        gone.change(20, -1);
        check.same("23: one that is GONE", gone.bestClick(0, 0), 24);
    }

    private static void bestRefuse() {
        Clickbook book = new Clickbook();
        check.refused("22: without CUES", Check.INDEX, book, b -> b.bestStart(0));
        check.refused("23: without CUES", Check.INDEX, book, b -> b.bestClick(0, 0));
        Check.cue(book, 0, 2, 24);
        Check.cue(book, 0);
        check.refused("22: cue -1", Check.INDEX, book, b -> b.bestStart(-1));
        check.refused("22: cue 2", Check.INDEX, book, b -> b.bestStart(2));
        check.refused("23: cue -1", Check.INDEX, book, b -> b.bestClick(-1, 0));
        check.refused("23: cue 2", Check.INDEX, book, b -> b.bestClick(2, 0));
        check.refused("23: bar -1", Check.INDEX, book, b -> b.bestClick(0, -1));
        check.refused("23: bar 1", Check.INDEX, book, b -> b.bestClick(0, 1));
        check.refused("23: most bar", Check.INDEX, book, b -> b.bestClick(0, Integer.MAX_VALUE));
        check.refused("23: without BARS", Check.INDEX, book, b -> b.bestClick(1, 0));
    }

    /** HITS at 100 and 300 (TOLERANCE 1), one CUE of BEATS at 90, 130, and what such a CHANGE would meet. */
    private static void wouldMeetOf(int frame, int n, int due) {
        Clickbook book = new Clickbook();
        book.hit(100, 1);
        book.hit(300, 1);
        Check.cue(book, 90, 2, 160);
        String what = "wouldMeet(" + frame + ", " + n + ")";
        check.asked("24: " + what, due, book, b -> b.wouldMeet(frame, n));
        book.change(frame, n);
        check.same("24: " + what + ", and so it is then", book.many(4), due);
    }

    private static void wouldMeet() {
        wouldMeetOf(0, 5, 0);
        wouldMeetOf(95, 30, 1);
        wouldMeetOf(95, 28, 0);
        wouldMeetOf(90, 30, 0);
        wouldMeetOf(91, 29, 1);
        wouldMeetOf(95, -5, 0);
        wouldMeetOf(91, -9, 1);
        wouldMeetOf(90, -10, 1);
        wouldMeetOf(90, -11, 0);
        wouldMeetOf(80, -18, 0);
        wouldMeetOf(80, -19, 1);
        wouldMeetOf(120, -170, 1);
        wouldMeetOf(101, -170, 1);
        wouldMeetOf(92, -202, 0);
        wouldMeetOf(130, -168, 0);
        wouldMeetOf(130, -169, 1);
        wouldMeetOf(130, -170, 1);
        wouldMeetOf(130, -171, 0);
    }

    private static void wouldMeetAtTheEdges() {
        Clickbook book = new Clickbook();
        check.same("24: without HITS", book.wouldMeet(0, 1), 0);
        book.hit(2399, 0);
        book.hit(50, 0);
        Check.cue(book, 2399, 2, 24);
        Check.cue(book, 50, 2, 24);
        check.same("24: put in at LENGTH", book.wouldMeet(2400, 999), 2);
        check.same("24: the last one taken out", book.wouldMeet(2399, -1), 1);
        check.same("24: the last one of several CUES", book.wouldMeet(51, -20), 2);
        book.change(50, -1);
        check.same("24: one that is GONE", book.wouldMeet(2399, 1), 1);
        for (int i = book.many(1); i < 20; i++) {
            book.change(0, 1);
        }
        check.same("24: VERSION of 20", book.many(1), 20);
        check.asked("24: with a VERSION of 20", 1, book, b -> b.wouldMeet(0, 1));
    }

    private static void wouldMeetRefuses() {
        Clickbook book = new Clickbook();
        book.hit(100, 1);
        Check.cue(book, 100, 2, 24);
        check.refused("24: frame -1", Check.ARGUMENT, book, b -> b.wouldMeet(-1, 1));
        check.refused("24: frame above LENGTH", Check.ARGUMENT, book, b -> b.wouldMeet(2401, 1));
        check.refused("24: n 0", Check.ARGUMENT, book, b -> b.wouldMeet(0, 0));
        check.refused("24: n 1000", Check.ARGUMENT, book, b -> b.wouldMeet(0, 1000));
        check.refused("24: n -1000", Check.ARGUMENT, book, b -> b.wouldMeet(0, -1000));
        check.refused("24: least n", Check.ARGUMENT, book, b -> b.wouldMeet(0, Integer.MIN_VALUE));
        check.refused("24: not there", Check.ARGUMENT, book, b -> b.wouldMeet(2400, -1));
        check.refused("24: some not there", Check.ARGUMENT, book, b -> b.wouldMeet(2000, -401));
        book.change(0, -999);
        book.change(0, -999);
        check.refused("24: less than 24 left", Check.ARGUMENT, book, b -> b.wouldMeet(0, -379));
        check.same("24: 24 left", book.wouldMeet(0, -378), 0);
        for (int i = book.many(1); i < 20; i++) {
            book.change(0, 1);
        }
        check.refused("24: VERSION of 20, and n 0", Check.ARGUMENT, book, b -> b.wouldMeet(0, 0));
    }

    /** The checksum, put together from what the other calls answer. */
    private static long digestOf(Clickbook book) {
        long d = 58231L;
        for (int what = 0; what < 16; what++) {
            d = d * 31 + book.many(what);
        }
        for (int k = 0; k < book.many(2) * 7; k++) {
            d = d * 31 + book.ofHit(k / 7, k % 7);
        }
        for (int cue = 0; cue < book.many(6); cue++) {
            for (int what = 0; what < 13; what++) {
                d = d * 31 + book.ofCue(cue, what);
            }
            for (int bar = 0; bar < book.ofCue(cue, 6); bar++) {
                for (int what = 0; what < 4; what++) {
                    d = d * 31 + book.ofBar(cue, bar, what);
                }
                d = d * 31 + book.joined(cue, bar);
            }
            d = d * 31 + book.join(cue);
        }
        for (int k = 0; k < book.many(10) * 5; k++) {
            d = d * 31 + book.ofTake(k / 5, k % 5);
        }
        for (int writer = 0; writer < 4; writer++) {
            d = d * 31 + book.sheet(writer);
        }
        d = d * 31 + book.wouldMeet(book.many(0) / 2, 24);
        return book.many(6) == 0 ? d : d * 31 + book.bestStart(0);
    }

    private static void digest() {
        Clickbook book = new Clickbook();
        check.same("25: a new object", book.digest(), digestOf(book));
        book.hit(1200, 2);
        book.hit(50, 4);
        check.same("25: HITS", book.digest(), digestOf(book));
        book.theme(60);
        book.cue(40, 0, 3, 1, 2);
        check.same("25: a CUE without BARS", book.digest(), digestOf(book));
        book.bar(0, 3, 33);
        book.bar(0, 4, 44);
        Check.cue(book, 2390, 5, 55);
        book.open(7);
        book.take(0, 59, 1);
        book.take(0, 95, 0);
        book.take(1, 4, -2);
        check.same("25: TAKES", book.digest(), digestOf(book));
        long before = book.digest();
        check.same("25: asked again", book.digest(), before);
        book.close();
        book.change(45, -7);
        check.same("25: behind a CHANGE", book.digest(), digestOf(book));
        check.isTrue("25: another one then", book.digest() != before);
        // the HITS are MET as just 24 FRAMES, neither more nor less, are put in, and that at 1200
        Clickbook half = new Clickbook();
        half.hit(1199, 0);
        half.hit(1200, 0);
        half.hit(1200, 0);
        Check.cue(half, 1199, 2, 100);
        half.bar(0, 2, 24);
        half.bar(0, 2, 24);
        check.same("25: what 24 FRAMES at LENGTH / 2 would meet", half.wouldMeet(1200, 24), 3);
        check.same("25: what 25 would", half.wouldMeet(1200, 25), 1);
        check.same("25: what 23 would", half.wouldMeet(1200, 23), 1);
        check.same("25: what 24 behind would", half.wouldMeet(1201, 24), 1);
        check.same("25: what 24 ahead would", half.wouldMeet(1199, 24), 1);
        check.same("25: a HIT at LENGTH / 2", half.digest(), digestOf(half));
    }
}
