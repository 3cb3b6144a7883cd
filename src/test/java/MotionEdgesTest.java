/** The edges of promises 29 to 32 (motions, songs), a sentence of the document each. */
public final class MotionEdgesTest {
    private static final int SINGER = Scene.SINGER, LIAR = Scene.LIAR, WED = Scene.WED, CHILD = Scene.CHILD;
    private static final int TWIN = Scene.TWIN, MILLER = Scene.MILLER;
    private static final Check check = new Check();
    private static final Scene empty = Scene.empty(check), some = Scene.some(check), fullest = Scene.fullest(check);
    private static final Scene[] scenes = {empty, some, fullest};

    public static void main(String[] args) {
        blockRefused();
        blockNotSaid();
        blockNobodyAndAll();
        blockLiars();
        swingRefused();
        swingNotOfTheSet();
        swingNeverAndMost();
        swingLiars();
        songRefused();
        songOfNobody();
        songOfOne();
        songApart();
        songNone();
        songNotSoMany();
        songOfAll();
        songFirst();
        coupleRefused();
        coupleFewerThanTwo();
        coupleMates();
        coupleFirst();
        coupleMostSaid();
        coupleMateHasNone();
        coupleChangesNothing();
        check.end();
    }

    private static OneNote choir(int a, int b, int c, int... kindsAndNotes) {
        OneNote x = Scene.people(kindsAndNotes);
        x.chord(a, b, c, 1);
        return x;
    }

    // ---- 29 block

    private static void blockRefused() {
        check.about("promise 29: BAD: bits of nobody, not one of CHORDS; BAD ahead of NO");
        some.off("block", (x, n) -> x.block(n[0], n[1]), new int[] {7, 0}, 0, 7, 0, 1);
        some.off("block, not SAID", (x, n) -> x.block(n[0], n[1]), new int[] {1, 0}, 0, 7, 0, 1);
        fullest.off("block", (x, n) -> x.block(n[0], n[1]), new int[] {127, 7}, 0, 127, 0, 7);
        empty.bad("block(0, 0)", x -> x.block(0, 0));
    }

    private static void blockNotSaid() {
        check.about("promise 29: NO: it does not SAY it");
        some.no("block(0, 0), nobody", x -> x.block(0, 0));
        some.no("block(3, 0)", x -> x.block(3, 0));
        some.no("block(4, 1)", x -> x.block(4, 1));
        for (int chord = 0; chord < 8; chord++) {
            int c = chord;
            fullest.no("block(0, " + c + ")", x -> x.block(0, c));
            fullest.no("block(1, " + c + ")", x -> x.block(1, c));
        }
    }

    private static void blockNobodyAndAll() {
        check.about("promise 29: those of it (bits) without whom it does not");
        some.asks("block(7, 0): all", x -> x.block(7, 0), 7);
        some.asks("block(7, 1): two of three", x -> x.block(7, 1), 6);
        OneNote twice = choir(0, 4, 8, SINGER, 0, SINGER, 4, SINGER, 8, SINGER, 0, SINGER, 4, SINGER, 8, SINGER, 0);
        check.due("everyone twice: nobody", twice.block(127, 0), 0);
        check.due("all but the second at 8", twice.block(127 & ~32, 0), 4);
        check.due("the last three", twice.block(Scene.bits(4, 5, 6), 0), Scene.bits(4, 5, 6));
        OneNote twins = choir(0, 1, 2, TWIN, 0, TWIN, 1, TWIN, 0);
        check.due("TWIN 1 is needed for 2", twins.block(7, 0), 2);
    }

    private static void blockLiars() {
        check.about("promise 29: without him the others may sound otherwise");
        OneNote x = choir(0, 7, 9, WED, 0, WED, 2, SINGER, 9);
        x.mates(0, 1);
        check.due("not SAID: nobody at 0 and 7", x.block(7, 0), -3);
        OneNote y = choir(2, 7, 9, WED, 0, WED, 2, SINGER, 9);
        y.mates(1, 0);
        check.due("7 is there by both", y.block(7, 0), 7);
        OneNote z = choir(0, 1, 2, TWIN, 1, LIAR, 11, SINGER, 0);
        check.due("a LIAR at 0 and a SINGER at 0", z.block(7, 0), 1);
    }

    // ---- 30 swing

    private static void swingRefused() {
        check.about("promise 30: BAD: bits of nobody, not one of PEOPLE, of CHORDS");
        some.off("swing", (x, n) -> x.swing(n[0], n[1], n[2]), new int[] {7, 2, 0}, 0, 7, 0, 2, 0, 1);
        fullest.off("swing", (x, n) -> x.swing(n[0], n[1], n[2]), new int[] {127, 6, 7}, 0, 127, 0, 6, 0, 7);
        empty.bad("swing(0, 0, 0)", x -> x.swing(0, 0, 0));
        empty.bad("swing(1, 0, 0)", x -> x.swing(1, 0, 0));
    }

    private static void swingNotOfTheSet() {
        check.about("promise 30: BAD: not of the SET, too");
        for (int person = 0; person < 7; person++) {
            int p = person;
            fullest.bad("swing, the others", x -> x.swing(127 & ~(1 << p), p, 0));
            fullest.bad("swing, nobody", x -> x.swing(0, p, 0));
        }
        some.bad("swing(7, 3, 0)", x -> x.swing(7, 3, 0));
        some.bad("swing(15, 3, 0)", x -> x.swing(15, 3, 0));
        OneNote x = some.make();
        check.due("swing(6, 0, 0)", x.swing(6, 0, 0), -2);
        Scene.fraction(check, x, "THE FRACTION stays", 1, 4);
    }

    private static void swung(OneNote x, int set, int person, int above, int below) {
        String call = "swing(" + set + ", " + person + ", 0)";
        check.due(call, x.swing(set, person, 0), 1);
        Scene.fraction(check, x, call, above, below);
    }

    private static void swingNeverAndMost() {
        check.about("promise 30: of all sets of the others of it the share; lowest terms");
        OneNote x = choir(0, 4, 8, SINGER, 0, SINGER, 4, SINGER, 8, SINGER, 0, SINGER, 4, SINGER, 8, SINGER, 8);
        swung(x, 1, 0, 0, 1);
        swung(x, 64, 6, 0, 1);
        swung(x, 3, 0, 0, 1);
        swung(x, 7, 0, 1, 4);
        swung(x, 127, 0, 21, 64);
        swung(x, 127, 6, 9, 64);
        swung(x, 127 & ~1, 3, 21, 32);
        OneNote never = choir(0, 4, 8, SINGER, 0, SINGER, 4, SINGER, 8, SINGER, 1);
        swung(never, 15, 3, 0, 1);
        OneNote half = choir(0, 1, 2, TWIN, 0, SINGER, 2);
        swung(half, 3, 1, 1, 2);
        OneNote most = choir(0, 1, 2, SINGER, 0, TWIN, 1, TWIN, 1, TWIN, 1, TWIN, 1, TWIN, 1, TWIN, 1);
        swung(most, 127, 0, 63, 64);
        swung(most, 127, 6, 1, 64);
    }

    private static void swingLiars() {
        check.about("promise 30: with him the others may sound otherwise");
        OneNote x = choir(0, 1, 5, LIAR, 11, TWIN, 0, SINGER, 5, MILLER, 0);
        swung(x, 7, 2, 1, 2);
        swung(x, 7, 0, 0, 1);
        OneNote wed = choir(0, 4, 7, WED, 0, SINGER, 4, SINGER, 0);
        wed.mates(0, 2);
        swung(wed, 7, 2, 1, 4);
    }

    // ---- 31 song

    private static void songRefused() {
        check.about("promise 31: BAD: -10; bits of nobody, k not 0 .. 6, i below NONE");
        some.offAnswers("song", (x, n) -> x.song(n[0], n[1], n[2]), -10, new int[] {7, 6, 0}, 0, 7, 0, 6, -1, Scene.MAX);
        fullest.offAnswers("song", (x, n) -> x.song(n[0], n[1], n[2]), -10, new int[] {127, 0, -1},
            0, 127, 0, 6, -1, Scene.MAX);
        empty.offAnswers("song", (x, n) -> x.song(n[0], n[1], n[2]), -10, new int[] {0, 0, -1}, 0, 0, 0, 6, -1, Scene.MAX);
    }

    private static void songOfNobody() {
        check.about("promise 31: nobody: one order, with none in it");
        for (Scene scene : scenes) {
            for (int apart = 0; apart <= 6; apart++) {
                int k = apart;
                scene.asks("song(0, " + k + ", -1)", x -> x.song(0, k, -1), 1);
                scene.asks("song(0, " + k + ", 0)", x -> x.song(0, k, 0), -5);
                scene.asks("song(0, " + k + ", MAX)", x -> x.song(0, k, Scene.MAX), -5);
            }
        }
    }

    private static void songOfOne() {
        check.about("promise 31: one: one order");
        for (int person = 0; person < 7; person++) {
            int p = person;
            fullest.asks("how many", x -> x.song(1 << p, 0, -1), 1);
            fullest.asks("the first", x -> x.song(1 << p, 0, 0), p);
            fullest.asks("no more", x -> x.song(1 << p, 0, 1), -5);
        }
    }

    private static void songApart() {
        check.about("terms: SONG: two in a row no more than k APART, on the ring");
        for (int a = 0; a < 12; a++) {
            for (int b = 0; b < 12; b++) {
                OneNote x = Scene.people(MILLER, a, LIAR, b);
                for (int k = 0; k <= 6; k++) {
                    boolean near = Scene.apart(a, b) <= k;
                    check.due(a + " and " + b + " by " + k, x.song(3, k, -1), near ? 2 : 0);
                    check.due(a + " and " + b + " by " + k + ", the first", x.song(3, k, 0), near ? 0 : -5);
                }
            }
        }
        OneNote less = Scene.people(SINGER, 0, SINGER, 6, SINGER, 3);
        int[] orders = {0, 0, 0, 2, 2, 2, 6};
        for (int k = 6; k >= 0; k--) {
            check.due("0, 6, 3 by " + k + ", by more ahead of it", less.song(7, k, -1), orders[k]);
        }
        OneNote notes = Scene.people(CHILD, 0, LIAR, 0, WED, 0, WED, 7, TWIN, 6);
        notes.mates(2, 3);
        notes.slack(2);
        check.due("their NOTES, not what they SOUND: 0, 0, 0", notes.song(7, 0, -1), 6);
        check.due("0 and 7 by 0, MATES", notes.song(12, 0, -1), 0);
        check.due("SLACK is none here: 0 and 7 by 4", notes.song(12, 4, -1), 0);
        check.due("by 5", notes.song(12, 5, -1), 2);
        check.due("0 and 6 by 5", notes.song(17, 5, -1), 0);
        check.due("by 6", notes.song(17, 6, -1), 2);
    }

    private static void songNone() {
        check.about("promise 31: -5: none; no order: 0");
        OneNote x = Scene.people(SINGER, 0, SINGER, 3, SINGER, 6, SINGER, 0);
        check.due("0, 3, 6 by 2", x.song(7, 2, -1), 0);
        for (int i : new int[] {0, 1, 2, 3, Scene.MAX}) {
            check.due("0, 3, 6 by 2, " + i, x.song(7, 2, i), -5);
        }
        check.due("0, 3, 6 by 3: 3 is between", x.song(7, 3, -1), 2);
        check.due("the last two are near, the first is none's", x.song(9 | 4, 0, -1), 0);
        check.due("0 and 0 by 0", x.song(9, 0, -1), 2);
    }

    private static void songNotSoMany() {
        check.about("promise 31: -5: not so many");
        fullest.asks("the seventh", x -> x.song(127, 6, 6), 6);
        for (int place : new int[] {7, 8, 32, 5039, 5040, Scene.MAX}) {
            int i = place;
            fullest.asks("song(127, 6, " + i + ")", x -> x.song(127, 6, i), -5);
        }
        some.asks("the second of two", x -> x.song(5, 6, 1), 2);
        some.asks("the third of two", x -> x.song(5, 6, 2), -5);
    }

    private static void songOfAll() {
        check.about("promise 31: how many orders");
        int[] due = {1, 1, 2, 6, 24, 120, 720, 5040};
        for (int many = 0; many <= 7; many++) {
            int set = (1 << many) - 1;
            int n = many;
            fullest.asks("of " + many, x -> x.song(set, 6, -1), due[n]);
            fullest.asks("of the last " + many, x -> x.song(127 & ~(127 >> n), 6, -1), due[n]);
        }
    }

    private static void songFirst() {
        check.about("terms: SONG: the first (by PEOPLE)");
        for (int i = 0; i < 7; i++) {
            int place = i;
            fullest.asks("by 6", x -> x.song(127, 6, place), place);
        }
        OneNote x = Scene.people(SINGER, 6, SINGER, 2, SINGER, 8, SINGER, 0, SINGER, 4, SINGER, 10);
        int[] round = {0, 2, 5, 3, 1, 4};
        for (int i = 0; i < 6; i++) {
            check.due("by 2, from 6 up: 8 ahead of 4", x.song(63, 2, i), round[i]);
        }
        check.due("by 2, how many", x.song(63, 2, -1), 12);
        OneNote back = Scene.people(SINGER, 2, SINGER, 0, SINGER, 4, SINGER, 6);
        int[] row = {1, 0, 2, 3};
        for (int i = 0; i < 4; i++) {
            check.due("the least can not begin", back.song(15, 2, i), row[i]);
        }
        check.due("how many", back.song(15, 2, -1), 2);
    }

    // ---- 32 couple

    private static void coupleRefused() {
        check.about("promise 32: BAD: bits of nobody");
        empty.off("couple", (x, n) -> x.couple(n[0]), new int[] {0}, 0, 0);
        some.off("couple", (x, n) -> x.couple(n[0]), new int[] {7}, 0, 7);
        fullest.off("couple", (x, n) -> x.couple(n[0]), new int[] {127}, 0, 127);
    }

    private static void coupleFewerThanTwo() {
        check.about("promise 32: NONE: fewer than two");
        for (Scene scene : scenes) {
            scene.asks("couple(0)", x -> x.couple(0), -1);
        }
        for (int person = 0; person < 7; person++) {
            int p = person;
            fullest.asks("couple of one", x -> x.couple(1 << p), -1);
        }
    }

    private static void coupleMates() {
        check.about("promise 32: NONE: no two that are not each other's MATES");
        fullest.asks("couple(20)", x -> x.couple(20), -1);
        fullest.asks("couple(65)", x -> x.couple(65), -1);
        fullest.asks("couple(21), two with a third", x -> x.couple(21), 2);
        OneNote x = Scene.people(SINGER, 0, SINGER, 1, SINGER, 2);
        x.mates(1, 2);
        check.due("the MATE is not in the SET", x.couple(3), 1);
        check.due("0 and 1 ahead of 0 and 2; 1 and 2 are MATES", x.couple(7), 1);
    }

    private static void coupleFirst() {
        check.about("promise 32: of like ones the first; 10 times the lesser, and the other one");
        OneNote x = Scene.people(SINGER, 0, SINGER, 0, SINGER, 0, SINGER, 0, SINGER, 0, SINGER, 0, SINGER, 0);
        for (int a = 0; a < 7; a++) {
            for (int b = a + 1; b < 7; b++) {
                check.due("couple of " + a + " and " + b + ", no CHORDS", x.couple(1 << a | 1 << b), 10 * a + b);
            }
        }
        check.due("of all", x.couple(127), 1);
        check.due("of all but 0", x.couple(126), 12);
        x.chord(0, 1, 2, 1);
        check.due("none SAID by any", x.couple(127), 1);
    }

    private static void coupleMostSaid() {
        check.about("terms: COUPLE: by whom most CHORDS are SAID by the SET");
        OneNote x = Scene.people(SINGER, 0, SINGER, 4, SINGER, 2, SINGER, 9, SINGER, 0, SINGER, 0, SINGER, 1);
        x.chord(4, 8, 9, 1);
        check.due("6 at 8, with the first", x.couple(127), 6);
        check.due("6 at 8, with 1, who is at 4 still", x.couple(127 & ~1), 16);
        x.chord(4, 7, 8, 1);
        check.due("7 by 0, 8 by 6: two CHORDS", x.couple(127), 6);
        x.chord(4, 7, 9, 1);
        check.due("7 by 0: three", x.couple(127), 6);
        OneNote last = choir(4, 5, 8, TWIN, 4, SINGER, 0, SINGER, 0, SINGER, 0, SINGER, 0, SINGER, 0, SINGER, 1);
        check.due("6 at 8, not with the TWIN", last.couple(127), 16);
        check.due("the last two", last.couple(Scene.bits(0, 5, 6)), 56);
        OneNote kinds = choir(0, 1, 4, TWIN, 0, SINGER, 4, SINGER, 7);
        check.due("SAID as it is, and not by a WED of the TWIN", kinds.couple(7), 12);
    }

    private static void coupleMateHasNone() {
        check.about("terms: COUPLE: a MATE that one had has none then");
        OneNote x = choir(0, 4, 8, WED, 0, WED, 1, SINGER, 4, SINGER, 6);
        x.mates(0, 1);
        check.due("SAID as it is", x.says(7, 0), 1);
        check.due("0 and 2: 1 is not at 8; 1 and 2: 1 is at 8", x.couple(7), 12);
        check.due("of all: 0 and 2 none; 1 and 2", x.couple(15), 12);
        OneNote second = choir(0, 4, 8, SINGER, 4, WED, 0, WED, 1);
        second.mates(1, 2);
        check.due("SAID as it is", second.says(7, 0), 1);
        check.due("0 and 1: 2 is not at 8; 0 and 2: 2 is at 8", second.couple(7), 2);
        OneNote y = choir(7, 8, 9, WED, 0, WED, 1, WED, 2, WED, 3);
        y.mates(0, 1);
        y.mates(2, 3);
        check.due("7, 8, 9 by MATES", y.says(15, 0), 1);
        check.due("by no other two: the first", y.couple(15), 2);
    }

    private static void coupleChangesNothing() {
        check.about("promise 32: nobody is WED by it");
        OneNote x = fullest.make();
        long before = x.digest();
        check.due("couple(127) is two", x.couple(127) > 0 ? 1 : 0, 1);
        check.due("digest()", x.digest(), before);
        fullest.asks("couple(24)", y -> y.couple(24), 34);
        some.asks("couple(7)", y -> y.couple(7), 2);
    }
}
