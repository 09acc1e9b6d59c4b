import java.util.ArrayList;
import java.util.Arrays;
import java.util.BitSet;
import java.util.List;

/**
 * A second reading of the document, as slow and as plain as can be, against which the class is run: frames are
 * counted one by one, a change is made on a tape of frames, and joins are found from the first bar on.
 */
final class Model {
    static final int NONE = -1;

    static final class Hit {
        int frame;
        int tolerance;
        boolean gone;
    }

    static final class Cue {
        int start;
        int theme;
        int players;
        int writer;
        int use;
        int edition;
        List<int[]> bars = new ArrayList<>();

        List<Integer> beats() {
            List<Integer> frames = new ArrayList<>();
            int quarters = 0;
            for (int[] bar : bars) {
                for (int k = 0; k < bar[0]; k++) {
                    frames.add(start + Math.floorDiv(quarters, 4));
                    quarters += bar[1];
                }
            }
            return frames;
        }

        int end() {
            int quarters = 0;
            for (int[] bar : bars) {
                quarters += bar[0] * bar[1];
            }
            return start - Math.floorDiv(-quarters, 4);
        }

        BitSet frames() {
            BitSet frames = new BitSet();
            int end = end();
            for (int f = start; f < end; f++) {
                frames.set(f);
            }
            return frames;
        }

        Cue copy() {
            Cue c = new Cue();
            c.start = start;
            for (int[] bar : bars) {
                c.bars.add(bar.clone());
            }
            return c;
        }
    }

    static final class Take {
        int cue;
        int edition;
        int push;
        List<Integer> notes = new ArrayList<>();
    }

    int length = 2400;
    int version;
    List<Hit> hits = new ArrayList<>();
    List<Integer> reveals = new ArrayList<>();
    List<Cue> cues = new ArrayList<>();
    List<Take> takes = new ArrayList<>();
    int band;
    int time;
    int costs;

    private static void argument(boolean right) {
        if (!right) {
            throw new IllegalArgumentException();
        }
    }

    private static void index(int number, int many) {
        if (!within(number, 0, many - 1)) {
            throw new IndexOutOfBoundsException();
        }
    }

    private static void state(boolean right) {
        if (!right) {
            throw new IllegalStateException();
        }
    }

    private static boolean within(int number, int least, int most) {
        return number >= least && number <= most;
    }

    int hit(int frame, int tolerance) {
        argument(within(frame, 0, length - 1) && within(tolerance, 0, 9));
        state(hits.size() < 12);
        Hit h = new Hit();
        h.frame = frame;
        h.tolerance = tolerance;
        hits.add(h);
        return hits.size() - 1;
    }

    int theme(int reveal) {
        argument(within(reveal, 0, length));
        state(reveals.size() < 4);
        reveals.add(reveal);
        return reveals.size() - 1;
    }

    private void checkCut(int frame, int n) {
        argument(within(frame, 0, length) && n != 0 && within(n, -999, 999));
        argument(n > 0 || (frame + -n <= length && length + n >= 24));
    }

    /** At which place each old frame lies behind such a change (NONE: it was taken out). */
    private int[] placesBehind(int frame, int n) {
        List<Integer> tape = new ArrayList<>();
        int all = length + 3000;
        for (int f = 0; f < all; f++) {
            tape.add(f);
        }
        if (n < 0) {
            tape.subList(frame, frame - n).clear();
        } else {
            List<Integer> fresh = new ArrayList<>();
            for (int k = 0; k < n; k++) {
                fresh.add(NONE);
            }
            tape.addAll(frame, fresh);
        }
        int[] places = new int[all];
        Arrays.fill(places, NONE);
        for (int place = 0; place < tape.size(); place++) {
            if (tape.get(place) != NONE) {
                places[tape.get(place)] = place;
            }
        }
        return places;
    }

    int change(int frame, int n) {
        checkCut(frame, n);
        state(version < 20);
        int[] places = placesBehind(frame, n);
        int touched = 0;
        for (Cue c : cues) {
            boolean isTouched = false;
            BitSet frames = c.frames();
            for (int f = 0; f < frames.length(); f++) {
                isTouched |= frames.get(f) && (n > 0 ? f == frame && f > c.start : places[f] == NONE);
            }
            if (isTouched) {
                touched++;
                c.edition++;
            }
            c.start = places[c.start] == NONE ? frame : places[c.start];
        }
        for (Hit h : hits) {
            if (!h.gone && places[h.frame] == NONE) {
                h.gone = true;
            } else if (!h.gone) {
                h.frame = places[h.frame];
            }
        }
        for (int i = 0; i < reveals.size(); i++) {
            int place = places[reveals.get(i)];
            reveals.set(i, place == NONE ? frame : place);
        }
        length += n;
        version++;
        return touched;
    }

    int cue(int start, int theme, int players, int writer, int use) {
        if (theme != NONE) {
            index(theme, reveals.size());
        }
        argument(within(start, 0, length) && within(players, 1, 40) && within(writer, 0, 3) && within(use, 0, 2));
        state(cues.size() < 8);
        Cue c = new Cue();
        c.start = start;
        c.theme = theme;
        c.players = players;
        c.writer = writer;
        c.use = use;
        cues.add(c);
        return cues.size() - 1;
    }

    int bar(int cue, int meter, int click) {
        index(cue, cues.size());
        argument(within(meter, 2, 7) && within(click, 24, 160));
        Cue c = cues.get(cue);
        state(c.bars.size() < 9);
        c.bars.add(new int[] {meter, click});
        c.edition++;
        return c.bars.size() - 1;
    }

    int retime(int cue, int bar, int meter, int click) {
        index(cue, cues.size());
        Cue c = cues.get(cue);
        index(bar, c.bars.size());
        argument(within(meter, 2, 7) && within(click, 24, 160));
        c.bars.set(bar, new int[] {meter, click});
        c.edition++;
        return c.end();
    }

    int shift(int cue, int start) {
        index(cue, cues.size());
        argument(within(start, 0, length));
        cues.get(cue).start = start;
        return met(cues);
    }

    int open(int band) {
        argument(within(band, 1, 60));
        state(this.band == 0);
        this.band = band;
        return takes.size();
    }

    int take(int cue, int notes, int push) {
        index(cue, cues.size());
        Cue c = cues.get(cue);
        argument(notes >= 0 && (notes == 0 || String.valueOf(notes).length() <= c.bars.size()) && within(push, -2, 2));
        int minutes = 3;
        for (int left = c.frames().cardinality(); left > 0; left -= 24 * 60) {
            minutes++;
        }
        state(band > 0 && !c.bars.isEmpty() && c.players <= band && time + minutes <= 120 && takes.size() < 40);
        Take t = new Take();
        t.cue = cue;
        t.edition = c.edition;
        t.push = push;
        StringBuilder digits = new StringBuilder(String.valueOf(notes)).reverse();
        for (int k = 0; k < c.bars.size(); k++) {
            t.notes.add(k < digits.length() ? digits.charAt(k) - '0' : 0);
        }
        takes.add(t);
        time += minutes;
        return takes.size() - 1;
    }

    int close() {
        state(band > 0);
        int each = 0;
        for (int minute = 0; minute < time; minute += 15) {
            each += minute < 60 ? 4 : 6;
        }
        int cost = each * band;
        costs += cost;
        band = 0;
        time = 0;
        return cost;
    }

    private int miss(Hit h, List<Cue> of) {
        int least = NONE;
        for (Cue c : of) {
            for (int f : c.beats()) {
                int miss = Math.abs(f - h.frame);
                least = least == NONE ? miss : Math.min(least, miss);
            }
        }
        return h.gone ? NONE : least;
    }

    private int met(List<Cue> of) {
        int met = 0;
        for (Hit h : hits) {
            int miss = miss(h, of);
            met += miss != NONE && miss <= h.tolerance ? 1 : 0;
        }
        return met;
    }

    int ofHit(int hit, int what) {
        index(hit, hits.size());
        argument(within(what, 0, 6));
        Hit h = hits.get(hit);
        int miss = miss(h, cues);
        int byCue = NONE;
        int byBeat = NONE;
        for (int c = cues.size() - 1; c >= 0; c--) {
            List<Integer> beats = cues.get(c).beats();
            for (int b = beats.size() - 1; b >= 0; b--) {
                if (miss != NONE && Math.abs(beats.get(b) - h.frame) == miss) {
                    byCue = c;
                    byBeat = b;
                }
            }
        }
        int isMet = miss != NONE && miss <= h.tolerance ? 1 : 0;
        return new int[] {h.frame, h.tolerance, h.gone ? 1 : 0, miss, isMet, byCue, byBeat}[what];
    }

    private boolean valid(Take t) {
        return t.edition == cues.get(t.cue).edition;
    }

    private List<Integer> validOf(int cue) {
        List<Integer> valid = new ArrayList<>();
        for (int t = 0; t < takes.size(); t++) {
            if (takes.get(t).cue == cue && valid(takes.get(t))) {
                valid.add(t);
            }
        }
        return valid;
    }

    int ofCue(int cue, int what) {
        index(cue, cues.size());
        argument(within(what, 0, 12));
        Cue c = cues.get(cue);
        int over = c.end() > length ? 1 : 0;
        int spoils = c.theme != NONE && c.start < reveals.get(c.theme) ? 1 : 0;
        int valid = validOf(cue).size();
        int seconds = valid > 0 && over == 0 ? c.frames().cardinality() / 24 : 0;
        return new int[] {c.start, c.theme, c.players, c.writer, c.use, c.edition, c.bars.size(), c.beats().size(),
            c.end(), over, spoils, valid, seconds}[what];
    }

    int ofBar(int cue, int bar, int what) {
        index(cue, cues.size());
        Cue c = cues.get(cue);
        index(bar, c.bars.size());
        argument(within(what, 0, 3));
        int first = 0;
        for (int[] ahead : c.bars.subList(0, bar)) {
            first += ahead[0];
        }
        return new int[] {c.bars.get(bar)[0], c.bars.get(bar)[1], first, c.beats().get(first)}[what];
    }

    int beat(int cue, int beat) {
        index(cue, cues.size());
        List<Integer> beats = cues.get(cue).beats();
        index(beat, beats.size());
        return beats.get(beat);
    }

    int ofTake(int take, int what) {
        index(take, takes.size());
        argument(within(what, 0, 4));
        Take t = takes.get(take);
        int sum = 0;
        for (int note : t.notes) {
            sum += note;
        }
        return new int[] {t.cue, t.edition, t.push, valid(t) ? 1 : 0, sum}[what];
    }

    int sheet(int writer) {
        index(writer, 4);
        int pay = 0;
        for (int c = 0; c < cues.size(); c++) {
            if (cues.get(c).writer == writer) {
                pay += ofCue(c, 12) * new int[] {1, 3, 5}[cues.get(c).use];
            }
        }
        return pay;
    }

    int many(int what) {
        argument(within(what, 0, 15));
        int gone = 0;
        for (Hit h : hits) {
            gone += h.gone ? 1 : 0;
        }
        int over = 0;
        int spoil = 0;
        int clash = 0;
        int valid = 0;
        for (int c = 0; c < cues.size(); c++) {
            over += ofCue(c, 9);
            spoil += ofCue(c, 10);
            valid += ofCue(c, 11);
            for (int ahead = 0; ahead < c; ahead++) {
                clash += cues.get(c).frames().intersects(cues.get(ahead).frames()) ? 1 : 0;
            }
        }
        int all = sheet(0) + sheet(1) + sheet(2) + sheet(3);
        return new int[] {length, version, hits.size(), gone, met(cues), reveals.size(), cues.size(), over, spoil,
            clash, takes.size(), valid, band, time, costs, all}[what];
    }

    double meanNote() {
        List<Integer> notes = new ArrayList<>();
        for (Take t : takes) {
            if (valid(t)) {
                notes.addAll(t.notes);
            }
        }
        double sum = 0;
        for (int note : notes) {
            sum += note;
        }
        return notes.isEmpty() ? 0 : sum / notes.size();
    }

    /** The worth of the best join, and behind it its takes; null without a valid take. */
    private List<Integer> bestJoin(int cue) {
        List<List<Integer>> ways = new ArrayList<>();
        for (int bar = 0; bar < cues.get(cue).bars.size(); bar++) {
            List<List<Integer>> longer = new ArrayList<>();
            for (int t : validOf(cue)) {
                List<Integer> best = bar == 0 ? List.of(takes.get(t).notes.get(0), t) : null;
                for (List<Integer> way : ways) {
                    List<Integer> on = wayOn(way, t, bar);
                    best = best == null || better(on, best) ? on : best;
                }
                longer.add(best);
            }
            ways = longer;
        }
        List<Integer> best = null;
        for (List<Integer> way : ways) {
            best = best == null || better(way, best) ? way : best;
        }
        return best;
    }

    private List<Integer> wayOn(List<Integer> way, int take, int bar) {
        int last = way.get(way.size() - 1);
        int push = Math.abs(takes.get(last).push - takes.get(take).push);
        List<Integer> on = new ArrayList<>(way);
        on.add(take);
        on.set(0, way.get(0) + takes.get(take).notes.get(bar) - (last == take ? 0 : 4 + 2 * push));
        return on;
    }

    private static boolean better(List<Integer> a, List<Integer> b) {
        for (int k = 0; k < a.size(); k++) {
            if (!a.get(k).equals(b.get(k))) {
                return k == 0 ? a.get(k) > b.get(k) : a.get(k) < b.get(k);
            }
        }
        return false;
    }

    int join(int cue) {
        index(cue, cues.size());
        List<Integer> best = bestJoin(cue);
        return best == null ? NONE : best.get(0);
    }

    int joined(int cue, int bar) {
        index(cue, cues.size());
        index(bar, cues.get(cue).bars.size());
        List<Integer> best = bestJoin(cue);
        return best == null ? NONE : best.get(bar + 1);
    }

    private List<Cue> copies() {
        List<Cue> copies = new ArrayList<>();
        for (Cue c : cues) {
            copies.add(c.copy());
        }
        return copies;
    }

    int bestStart(int cue) {
        index(cue, cues.size());
        List<Cue> copies = copies();
        int now = cues.get(cue).start;
        int best = NONE;
        int most = NONE;
        for (int start = Math.max(0, now - 24); start <= Math.min(length, now + 24); start++) {
            copies.get(cue).start = start;
            int met = met(copies);
            if (met > most || (met == most && Math.abs(start - now) < Math.abs(best - now))) {
                best = start;
                most = met;
            }
        }
        return best;
    }

    int bestClick(int cue, int bar) {
        index(cue, cues.size());
        index(bar, cues.get(cue).bars.size());
        List<Cue> copies = copies();
        int now = cues.get(cue).bars.get(bar)[1];
        int best = NONE;
        int most = NONE;
        for (int click = 24; click <= 160; click++) {
            copies.get(cue).bars.get(bar)[1] = click;
            int met = met(copies);
            if (met > most || (met == most && Math.abs(click - now) < Math.abs(best - now))) {
                best = click;
                most = met;
            }
        }
        return best;
    }

    /** Changes a model of its own that has the same picture and cues. */
    int wouldMeet(int frame, int n) {
        checkCut(frame, n);
        Model then = new Model();
        then.length = length;
        for (Hit h : hits) {
            Hit copy = new Hit();
            copy.frame = h.frame;
            copy.tolerance = h.tolerance;
            copy.gone = h.gone;
            then.hits.add(copy);
        }
        then.cues = copies();
        then.change(frame, n);
        return then.met(then.cues);
    }

    long digest() {
        List<Integer> told = new ArrayList<>();
        for (int what = 0; what <= 15; what++) {
            told.add(many(what));
        }
        for (int h = 0; h < hits.size(); h++) {
            for (int what = 0; what <= 6; what++) {
                told.add(ofHit(h, what));
            }
        }
        for (int c = 0; c < cues.size(); c++) {
            for (int what = 0; what <= 12; what++) {
                told.add(ofCue(c, what));
            }
            for (int bar = 0; bar < cues.get(c).bars.size(); bar++) {
                for (int what = 0; what <= 3; what++) {
                    told.add(ofBar(c, bar, what));
                }
                told.add(joined(c, bar));
            }
            told.add(join(c));
        }
        for (int t = 0; t < takes.size(); t++) {
            for (int what = 0; what <= 4; what++) {
                told.add(ofTake(t, what));
            }
        }
        for (int writer = 0; writer <= 3; writer++) {
            told.add(sheet(writer));
        }
        told.add(wouldMeet(length / 2, 24));
        if (!cues.isEmpty()) {
            told.add(bestStart(0));
        }
        long d = 58231L;
        for (int v : told) {
            d = d * 31 + v;
        }
        return d;
    }
}
