import java.util.ArrayList;

/** Music for a picture that keeps changing. The promises by number stand in DOC.md. */
public final class Clickbook {
    private static final int NONE = -1;

    private static final int FIRST_LENGTH = 2400;
    private static final int LEAST_LENGTH = 24;
    private static final int MOST_VERSION = 20;
    private static final int MOST_CUT = 999;
    private static final int MOST_HITS = 12;
    private static final int MOST_TOLERANCE = 9;
    private static final int MOST_THEMES = 4;
    private static final int FRAMES_A_SECOND = 24;
    private static final int FRAMES_A_MINUTE = 1440;

    private static final int MOST_CUES = 8;
    private static final int MOST_PLAYERS = 40;
    private static final int WRITERS = 4;
    private static final int MOST_USE = 2;
    private static final int MOST_BARS = 9;
    private static final int LEAST_METER = 2;
    private static final int MOST_METER = 7;
    private static final int LEAST_CLICK = 24;
    private static final int MOST_CLICK = 160;
    private static final int MOST_BEATS = MOST_BARS * MOST_METER;
    private static final int QUARTERS = 4;

    private static final int MOST_BAND = 60;
    private static final int MOST_TIME = 120;
    private static final int MOST_TAKES = 40;
    private static final int MOST_PUSH = 2;
    private static final int TIME_A_TAKE = 3;
    private static final int TIME_A_BLOCK = 15;
    private static final int CHEAP_BLOCKS = 4;
    private static final int CHEAP_BLOCK = 4;
    private static final int DEAR_BLOCK = 6;
    private static final int SPLICE = 4;
    private static final int SPLICE_A_PUSH = 2;

    private static final int BEST_START_REACH = 24;
    private static final long DIGEST_START = 58231L;
    private static final int DIGEST_CUT = 24;

    private final ArrayList<Hit> hits;
    private final int[] reveals;
    private int themeCount;
    private final ArrayList<Cue> cues;
    private final ArrayList<Take> takes;
    private int length;
    private int version;
    // 0 tells that no SESSION is open: no band is that small
    private int band;
    private int time;
    private int costs;
    private final JoinTable joins;
    // rows for what would be, made once so that no call makes any
    private final int[] trialOffsets;
    private final boolean[] metByOthers;

    public Clickbook() {
        hits = new ArrayList<Hit>();
        reveals = new int[MOST_THEMES];
        cues = new ArrayList<Cue>();
        takes = new ArrayList<Take>();
        length = FIRST_LENGTH;
        joins = new JoinTable();
        trialOffsets = new int[MOST_BEATS];
        metByOthers = new boolean[MOST_HITS];
    }

    // ---- the picture

    public int hit(int frame, int tolerance) throws IllegalArgumentException, IllegalStateException {
        if (frame < 0 || frame >= length || tolerance < 0 || tolerance > MOST_TOLERANCE) {
            throw new IllegalArgumentException("no such FRAME or TOLERANCE");
        }
        if (hits.size() >= MOST_HITS) {
            throw new IllegalStateException("no more HITS");
        }
        hits.add(new Hit(frame, tolerance));
        return hits.size() - 1;
    }

    public int theme(int reveal) throws IllegalArgumentException, IllegalStateException {
        if (reveal < 0 || reveal > length) {
            throw new IllegalArgumentException("no such FRAME");
        }
        if (themeCount >= MOST_THEMES) {
            throw new IllegalStateException("no more THEMES");
        }
        reveals[themeCount] = reveal;
        themeCount++;
        return themeCount - 1;
    }

    public int change(int frame, int n) throws IllegalArgumentException, IllegalStateException {
        refuseBadCut(frame, n);
        if (version >= MOST_VERSION) {
            throw new IllegalStateException("no more VERSIONS");
        }
        int touched = cutCues(frame, n);
        for (int i = 0; i < hits.size(); i++) {
            hits.get(i).cut(frame, n);
        }
        for (int i = 0; i < themeCount; i++) {
            reveals[i] = movedFrame(reveals[i], frame, n);
        }
        length += n;
        version++;
        return touched;
    }

    private int cutCues(int frame, int n) {
        int touched = 0;
        for (int i = 0; i < cues.size(); i++) {
            Cue c = cues.get(i);
            if (c.isTouched(frame, n)) {
                c.edition++;
                touched++;
            }
            c.start = movedFrame(c.start, frame, n);
        }
        return touched;
    }

    private void refuseBadCut(int frame, int n) {
        if (frame < 0 || frame > length || n == 0 || n < -MOST_CUT || n > MOST_CUT) {
            throw new IllegalArgumentException("no such CHANGE");
        }
        if (n < 0 && (frame - n > length || length + n < LEAST_LENGTH)) {
            throw new IllegalArgumentException("that can not be taken out");
        }
    }

    private static boolean isTakenOut(int f, int frame, int n) {
        return n < 0 && f >= frame && f < frame - n;
    }

    private static int movedFrame(int f, int frame, int n) {
        if (f < frame) {
            return f;
        }
        return isTakenOut(f, frame, n) ? frame : f + n;
    }

    // ---- cues

    public int cue(int start, int theme, int players, int writer, int use)
            throws IndexOutOfBoundsException, IllegalArgumentException, IllegalStateException {
        if (theme < NONE || theme >= themeCount) {
            throw new IndexOutOfBoundsException("no such THEME");
        }
        if (start < 0 || start > length || players < 1 || players > MOST_PLAYERS) {
            throw new IllegalArgumentException("no such START or PLAYERS");
        }
        if (writer < 0 || writer >= WRITERS || use < 0 || use > MOST_USE) {
            throw new IllegalArgumentException("no such WRITER or USE");
        }
        if (cues.size() >= MOST_CUES) {
            throw new IllegalStateException("no more CUES");
        }
        Cue made = new Cue(cues.size(), start, theme, players, writer, use);
        cues.add(made);
        return made.number;
    }

    public int bar(int cue, int meter, int click)
            throws IndexOutOfBoundsException, IllegalArgumentException, IllegalStateException {
        Cue c = cueNumbered(cue);
        refuseBadBar(meter, click);
        if (c.bars >= MOST_BARS) {
            throw new IllegalStateException("no more BARS");
        }
        c.bars++;
        c.setBar(c.bars - 1, meter, click);
        return c.bars - 1;
    }

    public int retime(int cue, int bar, int meter, int click)
            throws IndexOutOfBoundsException, IllegalArgumentException {
        Cue c = cueNumbered(cue);
        refuseNoBar(c, bar);
        refuseBadBar(meter, click);
        c.setBar(bar, meter, click);
        return c.end();
    }

    public int shift(int cue, int start) throws IndexOutOfBoundsException, IllegalArgumentException {
        Cue c = cueNumbered(cue);
        if (start < 0 || start > length) {
            throw new IllegalArgumentException("no such START");
        }
        c.start = start;
        return countMet();
    }

    private Cue cueNumbered(int cue) {
        if (cue < 0 || cue >= cues.size()) {
            throw new IndexOutOfBoundsException("no such CUE");
        }
        return cues.get(cue);
    }

    private static void refuseNoBar(Cue c, int bar) {
        if (bar < 0 || bar >= c.bars) {
            throw new IndexOutOfBoundsException("no such BAR");
        }
    }

    private static void refuseBadBar(int meter, int click) {
        if (meter < LEAST_METER || meter > MOST_METER || click < LEAST_CLICK || click > MOST_CLICK) {
            throw new IllegalArgumentException("no such METER or CLICK");
        }
    }

    // ---- the studio

    public int open(int band) throws IllegalArgumentException, IllegalStateException {
        if (band < 1 || band > MOST_BAND) {
            throw new IllegalArgumentException("no such band");
        }
        if (this.band > 0) {
            throw new IllegalStateException("a SESSION is open");
        }
        this.band = band;
        return takes.size();
    }

    public int take(int cue, int notes, int push)
            throws IndexOutOfBoundsException, IllegalArgumentException, IllegalStateException {
        Cue c = cueNumbered(cue);
        if (notes < 0 || notes > c.mostNotes() || push < -MOST_PUSH || push > MOST_PUSH) {
            throw new IllegalArgumentException("no such NOTES or PUSH");
        }
        if (band == 0 || c.bars == 0 || c.players > band) {
            throw new IllegalStateException("no SESSION for that CUE");
        }
        int minutes = TIME_A_TAKE + roundedUp(c.frames, FRAMES_A_MINUTE);
        if (time + minutes > MOST_TIME || takes.size() >= MOST_TAKES) {
            throw new IllegalStateException("no more TIME or TAKES");
        }
        time += minutes;
        takes.add(new Take(takes.size(), c, notes, push));
        return takes.size() - 1;
    }

    public int close() throws IllegalStateException {
        if (band == 0) {
            throw new IllegalStateException("no SESSION is open");
        }
        int blocks = roundedUp(time, TIME_A_BLOCK);
        int cheap = Math.min(blocks, CHEAP_BLOCKS);
        int cost = band * (cheap * CHEAP_BLOCK + (blocks - cheap) * DEAR_BLOCK);
        costs += cost;
        band = 0;
        time = 0;
        return cost;
    }

    private static int roundedUp(int amount, int part) {
        return part < 1 ? 0 : (amount + part - 1) / part;
    }

    // ---- what is asked

    public int ofHit(int hit, int what) throws IndexOutOfBoundsException, IllegalArgumentException {
        if (hit < 0 || hit >= hits.size()) {
            throw new IndexOutOfBoundsException("no such HIT");
        }
        Hit h = hits.get(hit);
        switch (what) {
            case 0: return h.frame;
            case 1: return h.tolerance;
            case 2: return h.gone ? 1 : 0;
            case 3: return missOf(h);
            case 4: return isMet(h) ? 1 : 0;
            case 5: return nearestCue(h);
            case 6: return nearestBeat(h);
            default: throw new IllegalArgumentException("no such question of a HIT");
        }
    }

    public int ofCue(int cue, int what) throws IndexOutOfBoundsException, IllegalArgumentException {
        Cue c = cueNumbered(cue);
        switch (what) {
            case 0: return c.start;
            case 1: return c.theme;
            case 2: return c.players;
            case 3: return c.writer;
            case 4: return c.use;
            case 5: return c.edition;
            case 6: return c.bars;
            case 7: return c.beats;
            case 8: return c.end();
            case 9: return runsOver(c) ? 1 : 0;
            case 10: return spoils(c) ? 1 : 0;
            case 11: return countValid(c);
            case 12: return secondsOf(c);
            default: throw new IllegalArgumentException("no such question of a CUE");
        }
    }

    public int ofBar(int cue, int bar, int what) throws IndexOutOfBoundsException, IllegalArgumentException {
        Cue c = cueNumbered(cue);
        refuseNoBar(c, bar);
        switch (what) {
            case 0: return c.meters[bar];
            case 1: return c.clicks[bar];
            case 2: return c.firstBeat(bar);
            case 3: return c.beatFrame(c.firstBeat(bar));
            default: throw new IllegalArgumentException("no such question of a BAR");
        }
    }

    public int beat(int cue, int beat) throws IndexOutOfBoundsException {
        Cue c = cueNumbered(cue);
        if (beat < 0 || beat >= c.beats) {
            throw new IndexOutOfBoundsException("no such BEAT");
        }
        return c.beatFrame(beat);
    }

    public int ofTake(int take, int what) throws IndexOutOfBoundsException, IllegalArgumentException {
        if (take < 0 || take >= takes.size()) {
            throw new IndexOutOfBoundsException("no such TAKE");
        }
        Take t = takes.get(take);
        switch (what) {
            case 0: return t.of.number;
            case 1: return t.edition;
            case 2: return t.push;
            case 3: return t.isValid() ? 1 : 0;
            case 4: return t.sumOfNotes();
            default: throw new IllegalArgumentException("no such question of a TAKE");
        }
    }

    public int sheet(int writer) throws IndexOutOfBoundsException {
        if (writer < 0 || writer >= WRITERS) {
            throw new IndexOutOfBoundsException("no such WRITER");
        }
        int pay = 0;
        for (int i = 0; i < cues.size(); i++) {
            Cue c = cues.get(i);
            if (c.writer == writer) {
                pay += payOf(c);
            }
        }
        return pay;
    }

    public int many(int what) throws IllegalArgumentException {
        switch (what) {
            case 0: return length;
            case 1: return version;
            case 2: return hits.size();
            case 3: return countGone();
            case 4: return countMet();
            case 5: return themeCount;
            case 6: return cues.size();
            case 7: return countRunningOver();
            case 8: return countSpoiling();
            case 9: return countClashes();
            case 10: return takes.size();
            case 11: return countAllValid();
            case 12: return band;
            case 13: return time;
            case 14: return costs;
            case 15: return payToAll();
            default: throw new IllegalArgumentException("no such question");
        }
    }

    public double meanNote() {
        int sum = 0;
        int notes = 0;
        for (int i = 0; i < takes.size(); i++) {
            Take t = takes.get(i);
            if (t.isValid()) {
                sum += t.sumOfNotes();
                notes += t.of.bars;
            }
        }
        return notes == 0 ? 0.0 : (double) sum / (double) notes;
    }

    private int nearestCue(Hit h) {
        int nearest = NONE;
        int least = NONE;
        for (int i = 0; i < cues.size() && !h.gone; i++) {
            int miss = cues.get(i).missOf(h.frame);
            if (miss != NONE && (least == NONE || miss < least)) {
                nearest = i;
                least = miss;
            }
        }
        return nearest;
    }

    private int missOf(Hit h) {
        int nearest = nearestCue(h);
        return nearest == NONE ? NONE : cues.get(nearest).missOf(h.frame);
    }

    private int nearestBeat(Hit h) {
        int nearest = nearestCue(h);
        return nearest == NONE ? NONE : cues.get(nearest).nearestBeat(h.frame);
    }

    private boolean isMet(Hit h) {
        return isMetBut(h, NONE);
    }

    /** If that HIT is MET by the BEATS of all CUES but the one of that number. */
    private boolean isMetBut(Hit h, int cue) {
        for (int i = 0; i < cues.size() && !h.gone; i++) {
            Cue c = cues.get(i);
            if (i != cue && c.reaches(h.frame, h.tolerance, c.start, c.offsets)) {
                return true;
            }
        }
        return false;
    }

    private int countMet() {
        int count = 0;
        for (int i = 0; i < hits.size(); i++) {
            if (isMet(hits.get(i))) {
                count++;
            }
        }
        return count;
    }

    private int countGone() {
        int count = 0;
        for (int i = 0; i < hits.size(); i++) {
            if (hits.get(i).gone) {
                count++;
            }
        }
        return count;
    }

    private boolean runsOver(Cue c) {
        return c.end() > length;
    }

    private int countRunningOver() {
        int count = 0;
        for (int i = 0; i < cues.size(); i++) {
            if (runsOver(cues.get(i))) {
                count++;
            }
        }
        return count;
    }

    private boolean spoils(Cue c) {
        return c.theme >= 0 && c.theme < themeCount && c.start < reveals[c.theme];
    }

    private int countSpoiling() {
        int count = 0;
        for (int i = 0; i < cues.size(); i++) {
            if (spoils(cues.get(i))) {
                count++;
            }
        }
        return count;
    }

    private int countClashes() {
        int count = 0;
        for (int i = 0; i < cues.size(); i++) {
            for (int k = i + 1; k < cues.size(); k++) {
                if (clash(cues.get(i), cues.get(k))) {
                    count++;
                }
            }
        }
        return count;
    }

    private static boolean clash(Cue a, Cue b) {
        // a CUE without BARS has no FRAME, even where its START lies inside of another
        return a.bars > 0 && b.bars > 0 && a.start < b.end() && b.start < a.end();
    }

    private int countValid(Cue c) {
        int count = 0;
        for (int i = 0; i < takes.size(); i++) {
            Take t = takes.get(i);
            if (t.of == c && t.isValid()) {
                count++;
            }
        }
        return count;
    }

    private int countAllValid() {
        int count = 0;
        for (int i = 0; i < takes.size(); i++) {
            if (takes.get(i).isValid()) {
                count++;
            }
        }
        return count;
    }

    private int secondsOf(Cue c) {
        boolean heard = !runsOver(c) && countValid(c) > 0;
        return heard ? c.frames / FRAMES_A_SECOND : 0;
    }

    private int payOf(Cue c) {
        int rate = c.use == 0 ? 1 : c.use == 1 ? 3 : 5;
        return secondsOf(c) * rate;
    }

    private int payToAll() {
        int pay = 0;
        for (int i = 0; i < cues.size(); i++) {
            pay += payOf(cues.get(i));
        }
        return pay;
    }

    // ---- what would be (nothing is changed)

    public int join(int cue) throws IndexOutOfBoundsException {
        joins.fill(cueNumbered(cue), takes);
        return joins.bestWorth();
    }

    public int joined(int cue, int bar) throws IndexOutOfBoundsException {
        Cue c = cueNumbered(cue);
        refuseNoBar(c, bar);
        joins.fill(c, takes);
        return joins.takeOf(bar);
    }

    public int bestStart(int cue) throws IndexOutOfBoundsException {
        Cue c = cueNumbered(cue);
        markMetByOthers(cue);
        int best = c.start;
        int most = countMetWith(c, best, c.offsets);
        // from the nearest outwards, the smaller one first: so only more HITS can win
        for (int away = 1; away <= BEST_START_REACH; away++) {
            for (int side = -1; side <= 1; side += 2) {
                int start = c.start + side * away;
                int met = start < 0 || start > length ? 0 : countMetWith(c, start, c.offsets);
                if (met > most) {
                    best = start;
                    most = met;
                }
            }
        }
        return best;
    }

    public int bestClick(int cue, int bar) throws IndexOutOfBoundsException {
        Cue c = cueNumbered(cue);
        refuseNoBar(c, bar);
        markMetByOthers(cue);
        int now = c.clicks[bar];
        int best = now;
        int most = countMetWith(c, c.start, c.offsets);
        // from the nearest outwards, the smaller one first: so only more HITS can win
        for (int away = 1; away <= MOST_CLICK - LEAST_CLICK; away++) {
            for (int side = -1; side <= 1; side += 2) {
                int click = now + side * away;
                int met = click < LEAST_CLICK || click > MOST_CLICK ? 0 : countMetWithClick(c, bar, click);
                if (met > most) {
                    best = click;
                    most = met;
                }
            }
        }
        return best;
    }

    public int wouldMeet(int frame, int n) throws IllegalArgumentException {
        refuseBadCut(frame, n);
        int count = 0;
        for (int i = 0; i < hits.size(); i++) {
            Hit h = hits.get(i);
            if (!h.gone && !isTakenOut(h.frame, frame, n) && wouldBeMet(h, frame, n)) {
                count++;
            }
        }
        return count;
    }

    public long digest() {
        long d = DIGEST_START;
        for (int what = 0; what <= 15; what++) {
            d = mixed(d, many(what));
        }
        for (int i = 0; i < hits.size(); i++) {
            for (int what = 0; what <= 6; what++) {
                d = mixed(d, ofHit(i, what));
            }
        }
        for (int i = 0; i < cues.size(); i++) {
            d = mixedCue(d, i);
        }
        for (int i = 0; i < takes.size(); i++) {
            for (int what = 0; what <= 4; what++) {
                d = mixed(d, ofTake(i, what));
            }
        }
        for (int writer = 0; writer < WRITERS; writer++) {
            d = mixed(d, sheet(writer));
        }
        d = mixed(d, wouldMeet(length / 2, DIGEST_CUT));
        return cues.isEmpty() ? d : mixed(d, bestStart(0));
    }

    private long mixedCue(long before, int cue) {
        long d = before;
        for (int what = 0; what <= 12; what++) {
            d = mixed(d, ofCue(cue, what));
        }
        Cue c = cueNumbered(cue);
        joins.fill(c, takes);
        for (int bar = 0; bar < c.bars; bar++) {
            for (int what = 0; what <= 3; what++) {
                d = mixed(d, ofBar(cue, bar, what));
            }
            d = mixed(d, joins.takeOf(bar));
        }
        return mixed(d, joins.bestWorth());
    }

    private static long mixed(long d, long v) {
        return d * 31L + v;
    }

    private void markMetByOthers(int cue) {
        for (int i = 0; i < hits.size() && i < metByOthers.length; i++) {
            metByOthers[i] = isMetBut(hits.get(i), cue);
        }
    }

    // metByOthers has to be marked for that CUE ahead: it stays the same for all that is tried with it
    private int countMetWith(Cue c, int start, int[] offsets) {
        int count = 0;
        for (int i = 0; i < hits.size() && i < metByOthers.length; i++) {
            Hit h = hits.get(i);
            if (metByOthers[i] || (!h.gone && c.reaches(h.frame, h.tolerance, start, offsets))) {
                count++;
            }
        }
        return count;
    }

    private int countMetWithClick(Cue c, int bar, int click) {
        c.layOut(trialOffsets, bar, click);
        return countMetWith(c, c.start, trialOffsets);
    }

    private boolean wouldBeMet(Hit h, int frame, int n) {
        int hitFrame = movedFrame(h.frame, frame, n);
        for (int i = 0; i < cues.size(); i++) {
            Cue c = cues.get(i);
            if (c.reaches(hitFrame, h.tolerance, movedFrame(c.start, frame, n), c.offsets)) {
                return true;
            }
        }
        return false;
    }

    private static final class Hit {
        int frame;
        final int tolerance;
        boolean gone;

        Hit(int frame, int tolerance) {
            this.frame = frame;
            this.tolerance = tolerance;
        }

        void cut(int at, int n) {
            if (gone) {
                return;
            }
            if (isTakenOut(frame, at, n)) {
                // it keeps the FRAME that it had: the document names none for it then
                gone = true;
            } else {
                frame = movedFrame(frame, at, n);
            }
        }
    }

    private static final class Cue {
        final int number;
        int start;
        final int theme;
        final int players;
        final int writer;
        final int use;
        int edition;
        int bars;
        final int[] meters;
        final int[] clicks;
        // what follows from the BARS, kept because every MISS asks for it
        int beats;
        int frames;
        final int[] offsets;

        Cue(int number, int start, int theme, int players, int writer, int use) {
            this.number = number;
            this.start = start;
            this.theme = theme;
            this.players = players;
            this.writer = writer;
            this.use = use;
            meters = new int[MOST_BARS];
            clicks = new int[MOST_BARS];
            offsets = new int[MOST_BEATS];
        }

        void setBar(int bar, int meter, int click) {
            if (bar < 0 || bar >= bars || bar >= MOST_BARS) {
                return;
            }
            meters[bar] = meter;
            clicks[bar] = click;
            edition++;
            beats = firstBeat(bars);
            frames = roundedUp(layOut(offsets, NONE, 0), QUARTERS);
        }

        /**
         * Fills the row with how far the BEATS lie behind START, if that BAR had that CLICK (with NONE: as they do),
         * and returns how many quarters of a FRAME all BEATS last then.
         */
        int layOut(int[] row, int otherBar, int otherClick) {
            int ahead = 0;
            int beat = 0;
            for (int bar = 0; bar < bars && bar < MOST_BARS; bar++) {
                int click = bar == otherBar ? otherClick : clicks[bar];
                for (int k = 0; k < meters[bar] && beat < row.length; k++) {
                    row[beat] = ahead / QUARTERS;
                    ahead += click;
                    beat++;
                }
            }
            return ahead;
        }

        int firstBeat(int bar) {
            int ahead = 0;
            for (int k = 0; k < bar && k < MOST_BARS; k++) {
                ahead += meters[k];
            }
            return ahead;
        }

        int beatFrame(int beat) {
            return beat < 0 || beat >= beats || beat >= offsets.length ? start : start + offsets[beat];
        }

        int end() {
            return start + frames;
        }

        int mostNotes() {
            int above = 1;
            for (int k = 0; k < bars; k++) {
                above *= 10;
            }
            return above - 1;
        }

        boolean isTouched(int frame, int n) {
            if (n > 0) {
                return start < frame && frame < end();
            }
            return bars > 0 && start < frame - n && frame < end();
        }

        int nearestBeat(int frame) {
            int nearest = NONE;
            int least = NONE;
            for (int beat = 0; beat < beats && beat < offsets.length; beat++) {
                int miss = Math.abs(start + offsets[beat] - frame);
                if (least == NONE || miss < least) {
                    nearest = beat;
                    least = miss;
                }
            }
            return nearest;
        }

        int missOf(int frame) {
            int nearest = nearestBeat(frame);
            return nearest == NONE ? NONE : Math.abs(beatFrame(nearest) - frame);
        }

        /** If a BEAT would lie that near to that FRAME, with that START and a row as layOut fills it. */
        boolean reaches(int frame, int tolerance, int otherStart, int[] row) {
            for (int beat = 0; beat < beats && beat < row.length; beat++) {
                if (Math.abs(otherStart + row[beat] - frame) <= tolerance) {
                    return true;
                }
            }
            return false;
        }
    }

    private static final class Take {
        final int number;
        final Cue of;
        final int edition;
        final int notes;
        final int push;

        Take(int number, Cue of, int notes, int push) {
            this.number = number;
            this.of = of;
            this.edition = of.edition;
            this.notes = notes;
            this.push = push;
        }

        boolean isValid() {
            return edition == of.edition;
        }

        int noteOf(int bar) {
            int rest = notes;
            for (int k = 0; k < bar; k++) {
                rest /= 10;
            }
            return rest % 10;
        }

        int sumOfNotes() {
            int sum = 0;
            for (int bar = 0; bar < MOST_BARS; bar++) {
                sum += noteOf(bar);
            }
            return sum;
        }
    }

    /** The best JOIN of one CUE at a time, from the last BAR to the first one. */
    private static final class JoinTable {
        private final ArrayList<Take> pool;
        private int bars;
        // by BAR and place in the pool: the WORTH from that BAR on, if it has that TAKE
        private final int[] worths;

        JoinTable() {
            pool = new ArrayList<Take>();
            worths = new int[MOST_BARS * MOST_TAKES];
        }

        void fill(Cue c, ArrayList<Take> takes) {
            bars = c.bars;
            pool.clear();
            for (int i = 0; i < takes.size() && i < MOST_TAKES; i++) {
                Take t = takes.get(i);
                if (t.of == c && t.isValid()) {
                    pool.add(t);
                }
            }
            for (int bar = bars - 1; bar >= 0; bar--) {
                fillBar(bar);
            }
        }

        private void fillBar(int bar) {
            for (int place = 0; place < pool.size(); place++) {
                int worth = pool.get(place).noteOf(bar);
                int next = bestPlace(bar + 1, place);
                if (next != NONE) {
                    worth += worthFrom(bar + 1, next) - costOfSplice(place, next);
                }
                int slot = slotOf(bar, place);
                if (slot != NONE) {
                    worths[slot] = worth;
                }
            }
        }

        int bestWorth() {
            int place = bestPlace(0, NONE);
            return place == NONE ? NONE : worthFrom(0, place);
        }

        int takeOf(int bar) {
            int place = NONE;
            for (int k = 0; k <= bar && k < bars; k++) {
                place = bestPlace(k, place);
            }
            return place < 0 || place >= pool.size() ? NONE : pool.get(place).number;
        }

        /** The place of the best TAKE from that BAR on; the first of several has the smallest number. */
        private int bestPlace(int bar, int placeAhead) {
            int best = NONE;
            int most = 0;
            for (int place = 0; place < pool.size() && bar < bars; place++) {
                int worth = worthFrom(bar, place) - costOfSplice(placeAhead, place);
                if (best == NONE || worth > most) {
                    best = place;
                    most = worth;
                }
            }
            return best;
        }

        private int costOfSplice(int placeAhead, int place) {
            if (placeAhead == place || placeAhead < 0 || place < 0) {
                return 0;
            }
            if (placeAhead >= pool.size() || place >= pool.size()) {
                return 0;
            }
            return SPLICE + SPLICE_A_PUSH * Math.abs(pool.get(placeAhead).push - pool.get(place).push);
        }

        private int worthFrom(int bar, int place) {
            int slot = slotOf(bar, place);
            return slot == NONE ? 0 : worths[slot];
        }

        private static int slotOf(int bar, int place) {
            boolean inside = bar >= 0 && bar < MOST_BARS && place >= 0 && place < MOST_TAKES;
            return inside ? bar * MOST_TAKES + place : NONE;
        }
    }
}
