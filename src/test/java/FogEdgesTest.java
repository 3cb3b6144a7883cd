import java.math.BigInteger;

/** The edges of promises 21 to 28 (fog, news, holes), a sentence of the document each. */
public final class FogEdgesTest {
    private static final Check check = new Check();
    private static final Scene empty = Scene.empty(check), some = Scene.some(check), fullest = Scene.fullest(check);
    private static final Scene[] scenes = {empty, some, fullest};

    public static void main(String[] args) {
        takenRefused();
        takenAlike();
        takenByFog();
        takenOverTheRing();
        takenPairedOnce();
        dropRefused();
        dropNone();
        dropMost();
        dropFewestThenLeastBits();
        dropOfFewerThanBefore();
        newsRefused();
        newsToItself();
        newsNoWay();
        newsNotSoMany();
        newsBothEnds();
        newsFewestSent();
        newsFewestRooms();
        newsFirstByRooms();
        newsLongest();
        holeRefused();
        holeThreeAtMost();
        holeFull();
        wholeEdges();
        meantRefused();
        meantEdges();
        waysEdges();
        waysMost();
        waysNoneAsTheOneAhead();
        oddsRefused();
        oddsNoWay();
        oddsLeast();
        oddsNoneAndAll();
        oddsGreatest();
        check.end();
    }

    private static OneNote chords(int[]... notes) {
        OneNote x = new OneNote();
        for (int[] n : notes) {
            x.chord(n[0], n[1], n[2], 1);
        }
        return x;
    }

    // ---- 21 taken

    private static void takenRefused() {
        check.about("promise 21: BAD: not one of CHORDS, FOG not 0 .. 3");
        some.off("taken", (x, n) -> x.taken(n[0], n[1], n[2]), new int[] {0, 1, 3}, 0, 1, 0, 1, 0, 3);
        fullest.off("taken", (x, n) -> x.taken(n[0], n[1], n[2]), new int[] {7, 0, 0}, 0, 7, 0, 7, 0, 3);
        empty.bad("taken(0, 1, 0)", x -> x.taken(0, 1, 0));
        some.asks("taken(0, 1, 0)", x -> x.taken(0, 1, 0), 0);
        some.asks("taken(1, 0, 3)", x -> x.taken(1, 0, 3), 0);
    }

    private static void takenAlike() {
        check.about("promise 21: BAD: alike, too");
        for (int fog = 0; fog < 4; fog++) {
            for (int chord = 0; chord < 8; chord++) {
                int f = fog;
                int c = chord;
                fullest.bad("taken(" + c + ", " + c + ", " + f + ")", x -> x.taken(c, c, f));
            }
        }
    }

    private static void takenByFog() {
        check.about("terms: each two are f APART at most");
        for (int by = 1; by <= 4; by++) {
            OneNote x = chords(new int[] {0, 1, 6}, new int[] {0, 1, 6 + by});
            OneNote y = chords(new int[] {0, 1, 6}, new int[] {0, 1, 6 - by});
            for (int f = 0; f < 4; f++) {
                int due = by <= f ? 1 : 0;
                check.due(by + " higher, FOG " + f, x.taken(0, 1, f), due);
                check.due(by + " higher, FOG " + f, x.taken(1, 0, f), due);
                check.due(by + " lower, FOG " + f, y.taken(0, 1, f), due);
                check.due(by + " lower, FOG " + f, y.taken(1, 0, f), due);
            }
        }
        OneNote all = chords(new int[] {0, 4, 8}, new int[] {2, 6, 10});
        check.due("all by 2, FOG 1", all.taken(0, 1, 1), 0);
        check.due("all by 2, FOG 2", all.taken(0, 1, 2), 1);
        all.slack(2);
        check.due("SLACK is no FOG", all.taken(0, 1, 1), 0);
        OneNote far = chords(new int[] {0, 1, 2}, new int[] {6, 7, 8});
        check.due("4 or more, FOG 3", far.taken(0, 1, 3), 0);
    }

    private static void takenOverTheRing() {
        check.about("terms: APART on the ring");
        OneNote x = chords(new int[] {0, 1, 2}, new int[] {0, 1, 11});
        check.due("0 for 11, 1 for 0, 2 for 1, FOG 1", x.taken(0, 1, 1), 1);
        check.due("and back", x.taken(1, 0, 1), 1);
        check.due("FOG 0", x.taken(0, 1, 0), 0);
        for (int by = 1; by < 12; by++) {
            int[] moved = {by, (4 + by) % 12, (5 + by) % 12};
            java.util.Arrays.sort(moved);
            OneNote y = chords(new int[] {0, 4, 5}, moved);
            for (int f = 0; f < 4; f++) {
                check.due("0 4 5 moved by " + by + ", FOG " + f, y.taken(0, 1, f), paired(moved, f) ? 1 : 0);
                check.due("and back", y.taken(1, 0, f), paired(moved, f) ? 1 : 0);
            }
        }
    }

    /** Whether 0, 4, 5 can be paired with these, by trying all six ways. */
    private static boolean paired(int[] other, int fog) {
        int[][] orders = {{0, 1, 2}, {0, 2, 1}, {1, 0, 2}, {1, 2, 0}, {2, 0, 1}, {2, 1, 0}};
        for (int[] o : orders) {
            if (Scene.apart(0, other[o[0]]) <= fog && Scene.apart(4, other[o[1]]) <= fog
                && Scene.apart(5, other[o[2]]) <= fog) {
                return true;
            }
        }
        return false;
    }

    private static void takenPairedOnce() {
        check.about("terms: notes are paired: no two with one");
        OneNote x = chords(new int[] {0, 1, 2}, new int[] {1, 6, 7}, new int[] {0, 2, 5});
        check.due("all near 1, but 6, 7 are far", x.taken(0, 1, 3), 0);
        check.due("1, 6, 7: 1 is near all", x.taken(1, 0, 3), 0);
        check.due("0, 1, 2 and 0, 2, 5 by 3: 2 for 5", x.taken(0, 2, 3), 1);
        check.due("by 2", x.taken(0, 2, 2), 0);
        OneNote two = chords(new int[] {0, 4, 8}, new int[] {0, 1, 2});
        check.due("8 has none", two.taken(0, 1, 3), 0);
        check.due("and back", two.taken(1, 0, 3), 0);
    }

    // ---- 22 drop

    private static void dropRefused() {
        check.about("promise 22: BAD: FOG not 0 .. 3");
        for (Scene scene : scenes) {
            scene.off("drop", (x, n) -> x.drop(n[0]), new int[] {0}, 0, 3);
        }
    }

    private static void dropNone() {
        check.about("promise 22: none has to go");
        for (int fog = 0; fog < 4; fog++) {
            int f = fog;
            empty.asks("no CHORDS, drop(" + f + ")", x -> x.drop(f), 0);
            check.due("one CHORD, drop(" + f + ")", chords(new int[] {0, 1, 2}).drop(f), 0);
            check.due("two far ones, drop(" + f + ")", chords(new int[] {0, 1, 2}, new int[] {6, 7, 8}).drop(f), 0);
        }
        fullest.asks("FOG 0: no two CHORDS are alike", x -> x.drop(0), 0);
    }

    private static void dropMost() {
        check.about("promise 22: all but one, of like ones the least bits");
        OneNote x = new OneNote();
        for (int a = 0; a < 5; a++) {
            for (int b = a + 1; b < 5; b++) {
                for (int c = b + 1; c < 5 && x.count(1) < 8; c++) {
                    x.chord(a, b, c, 1);
                }
            }
        }
        check.due("count(1)", x.count(1), 8);
        check.due("drop(2): the last stays", x.drop(2), 127);
        check.due("drop(3)", x.drop(3), 127);
        OneNote two = chords(new int[] {0, 1, 2}, new int[] {0, 1, 3});
        check.due("two: the first goes", two.drop(1), 1);
    }

    private static void dropFewestThenLeastBits() {
        check.about("terms: DROP: the fewest, of like ones the least bits");
        OneNote star = chords(new int[] {0, 4, 7}, new int[] {0, 4, 9}, new int[] {0, 4, 8});
        check.due("the last between two", star.drop(1), 4);
        check.due("two of three", star.drop(2), 3);
        OneNote pairs = chords(new int[] {0, 1, 2}, new int[] {4, 5, 6}, new int[] {0, 1, 3}, new int[] {4, 5, 7});
        check.due("one of each pair", pairs.drop(1), 3);
        OneNote row = new OneNote();
        for (int c = 0; c < 8; c++) {
            row.chord(0, 1, c + 2, 1);
        }
        check.due("eight in a row, FOG 1: four", row.drop(1), 0x55);
        check.due("FOG 2: five", row.drop(2), droppedByTrying(row, 2));
        check.due("FOG 3", row.drop(3), droppedByTrying(row, 3));
        row.slack(2);
        check.due("SLACK is no FOG", row.drop(0), 0);
    }

    private static void dropOfFewerThanBefore() {
        check.about("promise 22: CHORDS that are there no more are taken for none");
        OneNote x = new OneNote();
        x.chord(0, 1, 9, 1);
        x.chord(0, 1, 10, 1);
        x.image(0);
        for (int c = 2; c < 8; c++) {
            x.chord(0, 1, c, 1);
        }
        check.due("eight", Integer.bitCount(x.drop(3)), 6);
        x.from(0);
        check.due("two, FOG 1", x.drop(1), 1);
        check.due("two, FOG 0", x.drop(0), 0);
        x.read();
        check.due("none", x.drop(3), 0);
        x.chord(0, 4, 8, 1);
        check.due("one", x.drop(3), 0);
    }

    private static int droppedByTrying(OneNote x, int fog) {
        boolean[][] taken = new boolean[8][8];
        for (int a = 0; a < 8; a++) {
            for (int b = 0; b < a; b++) {
                taken[a][b] = x.taken(a, b, fog) == 1;
            }
        }
        int best = 255;
        for (int gone = 255; gone >= 0; gone--) {
            if (Integer.bitCount(gone) <= Integer.bitCount(best) && isClear(taken, 255 & ~gone)) {
                best = gone;
            }
        }
        return best;
    }

    private static boolean isClear(boolean[][] taken, int left) {
        for (int a = 0; a < 8; a++) {
            for (int b = 0; b < a; b++) {
                if (taken[a][b] && (left >> a & left >> b & 1) != 0) {
                    return false;
                }
            }
        }
        return true;
    }

    // ---- 23 news

    private static void newsRefused() {
        check.about("promise 23: BAD: -10; ROOMS 0 .. 5, i not below NONE");
        for (Scene scene : scenes) {
            scene.offAnswers("news", (x, n) -> x.news(n[0], n[1], n[2]), -10, new int[] {0, 1, 0},
                0, 5, 0, 5, -1, Scene.MAX);
            scene.offAnswers("news, SENT", (x, n) -> x.news(n[0], n[1], n[2]), -10, new int[] {2, 5, -1},
                0, 5, 0, 5, -1, Scene.MAX);
        }
    }

    private static void newsToItself() {
        check.about("terms: NEWS from one to itself: that one, SENT 0");
        for (int room = 0; room < 6; room++) {
            int r = room;
            for (Scene scene : scenes) {
                scene.asks("SENT", x -> x.news(r, r, -1), 0);
                scene.asks("ROW, 0", x -> x.news(r, r, 0), r);
                scene.asks("ROW, 1", x -> x.news(r, r, 1), -5);
            }
        }
    }

    private static void newsNoWay() {
        check.about("promise 23: NONE: there is no way, for any i");
        for (int place : new int[] {-1, 0, 1, 2, 5, 6, 100, Scene.MAX}) {
            int i = place;
            empty.asks("news(0, 5, " + i + ")", x -> x.news(0, 5, i), -1);
            some.asks("news(0, 2, " + i + ")", x -> x.news(0, 2, i), -1);
            some.asks("news(2, 0, " + i + ")", x -> x.news(2, 0, i), -1);
        }
        OneNote x = new OneNote();
        x.door(0, 1);
        check.due("a DOOR is no way", x.news(0, 1, -1), -1);
    }

    private static void newsNotSoMany() {
        check.about("promise 23: -5: not so many");
        some.asks("news(0, 5, 2), the last", x -> x.news(0, 5, 2), 5);
        for (int place : new int[] {3, 4, 5, 6, 16, 17, 32, 1000, Scene.MAX}) {
            int i = place;
            some.asks("news(0, 5, " + i + ")", x -> x.news(0, 5, i), -5);
        }
        for (int place : new int[] {4, 5, 6, 7, 16, 32, Scene.MAX}) {
            int i = place;
            fullest.asks("news(0, 5, " + i + ")", x -> x.news(0, 5, i), -5);
        }
        fullest.asks("news(0, 5, 3), the last", x -> x.news(0, 5, 3), 5);
    }

    private static void row(OneNote x, String why, int sent, int... rooms) {
        int from = rooms[0];
        int to = rooms[rooms.length - 1];
        check.due("SENT, " + why, x.news(from, to, -1), sent);
        for (int i = 0; i < rooms.length; i++) {
            check.due("ROW, " + i + ", " + why, x.news(from, to, i), rooms[i]);
        }
        check.due("ROW, no more, " + why, x.news(from, to, rooms.length), -5);
    }

    private static OneNote hearing(int... pairs) {
        OneNote x = new OneNote();
        for (int i = 0; i + 1 < pairs.length; i += 2) {
            x.hears(pairs[i], pairs[i + 1]);
        }
        return x;
    }

    private static void newsBothEnds() {
        check.about("terms: ROW: both ends too; in each between somebody has to be");
        OneNote x = hearing(0, 5);
        row(x, "none between, nobody at the ends", 0, 0, 5);
        row(x, "either way", 0, 5, 0);
        OneNote y = hearing(0, 3, 3, 5);
        row(y, "nobody between", 1, 0, 3, 5);
        y.one(0, 0, 0);
        y.one(0, 0, 5);
        row(y, "those at the ends are not between", 1, 0, 3, 5);
        y.one(0, 0, 3);
        row(y, "somebody between", 0, 0, 3, 5);
        y.goes(2, 4);
        row(y, "he has gone", 1, 5, 3, 0);
    }

    private static void newsFewestSent() {
        check.about("terms: SENT: the fewest ROOMS between in which nobody is");
        OneNote x = hearing(0, 1, 1, 5, 0, 2, 2, 3, 3, 4, 4, 5);
        row(x, "one ahead of three", 1, 0, 1, 5);
        x.one(0, 0, 2);
        x.one(0, 0, 3);
        row(x, "one of three is as few: the fewest ROOMS", 1, 0, 1, 5);
        x.one(0, 0, 4);
        row(x, "none of three ahead of one of one", 0, 0, 2, 3, 4, 5);
        row(x, "and back", 0, 5, 4, 3, 2, 0);
        x.goes(0, 1);
        row(x, "none of one", 0, 0, 1, 5);
    }

    private static void newsFewestRooms() {
        check.about("terms: ROW: of all with as few SENT the one with the fewest ROOMS");
        OneNote x = hearing(0, 1, 1, 2, 2, 5, 0, 4, 4, 5);
        for (int r = 0; r < 6; r++) {
            x.one(0, 0, r);
        }
        row(x, "two ahead of three", 0, 0, 4, 5);
        row(x, "and back", 0, 5, 4, 0);
        x.hears(0, 5);
        row(x, "none ahead of all", 0, 0, 5);
    }

    private static void newsFirstByRooms() {
        check.about("terms: ROW: of like ones the first by ROOMS");
        OneNote x = hearing(0, 4, 4, 5, 0, 3, 3, 5, 0, 1, 1, 5, 0, 2, 2, 5);
        row(x, "over 1", 1, 0, 1, 5);
        x.one(0, 0, 4);
        row(x, "over 4, where somebody is", 0, 0, 4, 5);
        x.one(0, 0, 3);
        row(x, "over 3", 0, 0, 3, 5);
        OneNote y = hearing(5, 1, 5, 2, 1, 4, 2, 3, 3, 0, 4, 0);
        row(y, "by the first that is unlike", 2, 5, 1, 4, 0);
        row(y, "and back: by the first again", 2, 0, 3, 2, 5);
    }

    private static void newsLongest() {
        check.about("terms: NEWS over all ROOMS");
        OneNote x = hearing(3, 5, 5, 0, 0, 4, 4, 1, 1, 2);
        row(x, "four SENT", 4, 3, 5, 0, 4, 1, 2);
        row(x, "and back", 4, 2, 1, 4, 0, 5, 3);
        int[] between = {5, 0, 4, 1};
        for (int i = 0; i < 4; i++) {
            x.one(0, 0, between[i]);
            check.due("SENT", x.news(3, 2, -1), 3 - i);
        }
        x.hears(3, 2);
        row(x, "0 SENT both ways: the shorter", 0, 3, 2);
    }

    // ---- 24, 25 hole, whole

    private static void holeRefused() {
        check.about("promise 24: BAD: not a set of NOTES; BAD ahead of FULL");
        for (Scene scene : scenes) {
            scene.off("hole", (x, n) -> x.hole(n[0]), new int[] {1}, 0, 0xe00);
            for (int bit = 12; bit < 32; bit++) {
                int notes = 1 << bit;
                scene.bad("hole(" + notes + ")", x -> x.hole(notes));
                scene.bad("hole(" + (notes | 1) + ")", x -> x.hole(notes | 1));
            }
        }
        for (int n = 0; n < 12; n++) {
            check.due("hole(NOTE " + n + ")", new OneNote().hole(1 << n), 0);
        }
    }

    private static void holeThreeAtMost() {
        check.about("terms: HOLES: three at most, perhaps none");
        for (int notes = 0; notes < 4096; notes++) {
            check.due("hole(" + notes + ")", new OneNote().hole(notes), Integer.bitCount(notes) <= 3 ? 0 : -2);
        }
        some.bad("four", x -> x.hole(15));
        some.bad("all", x -> x.hole(4095));
        fullest.bad("four, full", x -> x.hole(0xf00));
    }

    private static void holeFull() {
        check.about("promise 24: FULL: 6");
        fullest.full("hole(0)", x -> x.hole(0));
        fullest.full("hole(7)", x -> x.hole(7));
        fullest.full("hole(3584)", x -> x.hole(3584));
        OneNote x = new OneNote();
        for (int i = 0; i < 6; i++) {
            check.due("hole " + i, x.hole(7 << i), i);
            check.due("count(3)", x.count(3), i + 1);
        }
        check.due("the seventh", x.hole(1), -4);
        check.due("count(3)", x.count(3), 6);
        check.due("status(2)", x.status(2), 1);
    }

    private static void wholeEdges() {
        check.about("promise 25: no HOLES: how many there were");
        empty.asks("whole(), none", OneNote::whole, 0);
        OneNote x = fullest.make();
        check.due("whole(), full", x.whole(), 6);
        check.due("count(3)", x.count(3), 0);
        check.due("whole(), again", x.whole(), 0);
        check.due("ways()", x.ways(), 1);
        check.due("count(2): THE SPEECH stays", x.count(2), 6);
        check.due("hole(1): the first again", x.hole(1), 0);
        check.due("meant(1): none of the old ones", x.meant(1), -2);
    }

    // ---- 26 meant

    private static void meantRefused() {
        check.about("promise 26: BAD: not one of HOLES");
        some.off("meant", (x, n) -> x.meant(n[0]), new int[] {0}, 0, 1);
        fullest.off("meant", (x, n) -> x.meant(n[0]), new int[] {0}, 0, 5);
        empty.bad("meant(0)", x -> x.meant(0));
    }

    private static void meantEdges() {
        check.about("promise 26: CHORDS that have all of them: none, all");
        fullest.asks("meant(0), no notes", x -> x.meant(0), 255);
        fullest.asks("meant(5), no notes", x -> x.meant(5), 255);
        fullest.asks("meant(2), NOTE 0", x -> x.meant(2), 1);
        OneNote x = chords(new int[] {0, 1, 2}, new int[] {0, 1, 11}, new int[] {9, 10, 11});
        int[][] told = {{0, 7}, {1, 3}, {2, 3}, {3, 3}, {7, 1}, {1 << 11, 6}};
        for (int i = 0; i < 6; i++) {
            x.hole(told[i][0]);
            check.due("notes " + told[i][0], x.meant(i), told[i][1]);
        }
        x.whole();
        int[][] more = {{0xe00, 4}, {0xe01, -1}, {0x803, 2}, {1 << 5, 0}, {0xa00, 4}, {0x802, 2}};
        for (int[] m : more) {
            if (m[1] >= 0) {
                check.due("notes " + m[0], x.meant(x.hole(m[0])), m[1]);
            } else {
                check.due("notes " + m[0], x.hole(m[0]), -2);
            }
        }
        OneNote none = new OneNote();
        none.hole(0);
        check.due("no CHORDS", none.meant(0), 0);
    }

    // ---- 27 ways

    private static void waysEdges() {
        check.about("promise 27: no HOLES: one way; a hole that none fits: no way");
        empty.asks("no HOLES, no CHORDS", OneNote::ways, 1);
        OneNote x = fullest.make();
        x.whole();
        check.due("no HOLES, CHORDS", x.ways(), 1);
        x.hole(Scene.bits(0, 1));
        check.due("none fits", x.ways(), 0);
        x.hole(0);
        check.due("none fits the first", x.ways(), 0);
        OneNote y = chords(new int[] {0, 1, 2}, new int[] {0, 1, 3});
        y.hole(0);
        y.hole(1 << 5);
        check.due("none fits the last", y.ways(), 0);
        OneNote z = new OneNote();
        z.hole(0);
        check.due("no CHORDS", z.ways(), 0);
        z.chord(0, 1, 2, 1);
        check.due("one CHORD, one hole", z.ways(), 1);
        z.hole(0);
        check.due("one CHORD, two HOLES", z.ways(), 0);
    }

    private static void waysMost() {
        check.about("promise 27: 8 CHORDS, 6 HOLES");
        OneNote x = new OneNote();
        for (int c = 0; c < 8; c++) {
            x.chord(0, 1, c + 2, 9);
        }
        int[] due = {8, 56, 392, 2744, 19208, 134456};
        for (int h = 0; h < 6; h++) {
            x.hole(h % 2 == 0 ? 0 : 3);
            check.due("HOLES " + (h + 1), x.ways(), due[h]);
        }
    }

    private static void waysNoneAsTheOneAhead() {
        check.about("terms: WAYS: none as the one ahead");
        OneNote x = chords(new int[] {0, 1, 2}, new int[] {0, 1, 3});
        for (int h = 0; h < 6; h++) {
            x.hole(0);
            check.due("two CHORDS, HOLES " + (h + 1), x.ways(), 2);
        }
        x.whole();
        x.hole(1 << 2);
        x.hole(1 << 2);
        check.due("both the first", x.ways(), 0);
        x.whole();
        x.hole(1 << 2);
        x.hole(1 << 3);
        x.hole(1 << 2);
        check.due("the first again behind another", x.ways(), 1);
    }

    // ---- 28 odds

    private static void oddsRefused() {
        check.about("promise 28: BAD: not one of HOLES, of CHORDS; BAD ahead of NO");
        some.off("odds", (x, n) -> x.odds(n[0], n[1]), new int[] {0, 1}, 0, 1, 0, 1);
        fullest.off("odds", (x, n) -> x.odds(n[0], n[1]), new int[] {0, 7}, 0, 5, 0, 7);
        empty.bad("odds(0, 0)", x -> x.odds(0, 0));
        noWay().off("odds, no way", (x, n) -> x.odds(n[0], n[1]), new int[] {0, 0}, 0, 1, 0, 0);
        Scene noChords = new Scene(check, "a hole, no CHORDS", x -> x.hole(0));
        noChords.bad("odds(0, 0)", x -> x.odds(0, 0));
        Scene noHoles = new Scene(check, "a CHORD, no HOLES", x -> x.chord(0, 1, 2, 1));
        noHoles.bad("odds(0, 0)", x -> x.odds(0, 0));
    }

    private static Scene noWay() {
        return new Scene(check, "one CHORD, two HOLES", x -> {
            x.one(Scene.TWIN, 0, 0);
            x.one(Scene.SINGER, 2, 0);
            x.chord(0, 1, 2, 5);
            x.swing(3, 1, 0);
            x.hole(0);
            x.hole(0);
        });
    }

    private static void oddsNoWay() {
        check.about("promise 28: NO: there is none; THE FRACTION stays");
        noWay().no("odds(0, 0)", x -> x.odds(0, 0));
        noWay().no("odds(1, 0)", x -> x.odds(1, 0));
        OneNote x = noWay().make();
        Scene.fraction(check, x, "ahead", 1, 2);
        check.due("odds(0, 0)", x.odds(0, 0), -3);
        Scene.fraction(check, x, "behind", 1, 2);
        x.chord(0, 1, 3, 5);
        check.due("odds(0, 0), there are ways now", x.odds(0, 0), 1);
        Scene.fraction(check, x, "one of two like ones", 1, 2);
    }

    private static void oddsLeast() {
        check.about("promise 28: one CHORD of USED 1, one hole: one way, of weight 1");
        OneNote x = chords(new int[] {0, 1, 2});
        x.hole(7);
        check.due("odds(0, 0)", x.odds(0, 0), 1);
        Scene.fraction(check, x, "odds(0, 0)", 1, 1);
    }

    private static void oddsNoneAndAll() {
        check.about("promise 28: ODDS 0 by 1, 1 by 1; lowest terms");
        OneNote x = new OneNote();
        x.chord(0, 1, 2, 9);
        x.chord(0, 1, 3, 6);
        x.hole(0);
        x.hole(1 << 2);
        x.hole(0);
        check.due("odds(1, 0)", x.odds(1, 0), 1);
        Scene.fraction(check, x, "it is the only one", 1, 1);
        check.due("odds(1, 1)", x.odds(1, 1), 1);
        Scene.fraction(check, x, "it can not be", 0, 1);
        check.due("odds(0, 0): as the one behind", x.odds(0, 0), 1);
        Scene.fraction(check, x, "it can not be", 0, 1);
        x.chord(0, 1, 4, 3);
        check.due("odds(0, 1)", x.odds(0, 1), 1);
        Scene.fraction(check, x, "6 of 6 and 3", 2, 3);
        check.due("odds(2, 2)", x.odds(2, 2), 1);
        Scene.fraction(check, x, "3 of 6 and 3", 1, 3);
        x.whole();
        x.hole(0);
        check.due("odds(0, 0): one hole", x.odds(0, 0), 1);
        Scene.fraction(check, x, "9 of 18", 1, 2);
    }

    private static void oddsGreatest() {
        check.about("promise 28: 8 CHORDS, 6 HOLES: beyond an int");
        OneNote x = new OneNote();
        int[] used = {9, 8, 7, 9, 5, 9, 8, 7};
        for (int c = 0; c < 8; c++) {
            x.chord(0, 1, c + 2, used[c]);
        }
        for (int h = 0; h < 6; h++) {
            x.hole(0);
        }
        long all = weight(used, 6, -1, -1, -1);
        check.due("beyond an int", all > Integer.MAX_VALUE ? 1 : 0, 1);
        boolean greatBelow = false;
        for (int h = 0; h < 6; h++) {
            for (int c = 0; c < 8; c++) {
                long part = weight(used, 6, h, c, -1);
                long divisor = BigInteger.valueOf(part).gcd(BigInteger.valueOf(all)).longValueExact();
                check.due("odds(" + h + ", " + c + ")", x.odds(h, c), 1);
                Scene.fraction(check, x, "odds(" + h + ", " + c + ")", part / divisor, all / divisor);
                greatBelow |= all / divisor > Integer.MAX_VALUE;
            }
        }
        check.due("a number below that is beyond an int", greatBelow ? 1 : 0, 1);
    }

    /** All rows of so many chords, tried one by one: those with the chord at the hole (-1: all). */
    private static long weight(int[] used, int left, int hole, int chord, int ahead) {
        if (left == 0) {
            return 1;
        }
        long sum = 0;
        for (int c = 0; c < used.length; c++) {
            if (c != ahead && (6 - left != hole || c == chord)) {
                sum += used[c] * weight(used, left - 1, hole, chord, c);
            }
        }
        return sum;
    }
}
