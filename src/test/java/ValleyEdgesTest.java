/** The edges of promises 1 to 9 (a new object; a valley), a sentence of the document each. */
public final class ValleyEdgesTest {
    private static final int SINGER = Scene.SINGER, LIAR = Scene.LIAR, WED = Scene.WED, CHILD = Scene.CHILD;
    private static final int TWIN = Scene.TWIN, MILLER = Scene.MILLER;
    private static final Check check = new Check();
    private static final Scene empty = Scene.empty(check), some = Scene.some(check), fullest = Scene.fullest(check);
    private static final Scene[] scenes = {empty, some, fullest};

    public static void main(String[] args) {
        nobodyAndNoChords();
        noDoorsAndNobodyHears();
        nothingElseAtFirst();
        objectsAreApart();
        doorRooms();
        doorAlike();
        doorThere();
        hearsRooms();
        hearsAlike();
        hearsThere();
        doorsAndHearsAreApart();
        oneRanges();
        oneNumbers();
        oneFull();
        oneHasNoMateAtFirst();
        matesRanges();
        matesAlike();
        matesHaveOne();
        goesRanges();
        goesEdges();
        chordRanges();
        chordRising();
        chordAlike();
        chordFull();
        slackRange();
        slackEdges();
        soundsRefused();
        soundsOverTheRing();
        liarAlone();
        wedWithMate();
        check.end();
    }

    // ---- 1 a new object

    private static void nobodyAndNoChords() {
        check.about("promise 1: nobody, no CHORDS");
        for (int what = 0; what < 5; what++) {
            int asked = what;
            empty.asks("count(" + what + ")", x -> x.count(asked), 0);
        }
        empty.bad("goes(0, 0)", x -> x.goes(0, 0));
        empty.bad("sounds(0, 1)", x -> x.sounds(0, 1));
        empty.bad("mates(0, 1)", x -> x.mates(0, 1));
        empty.bad("says(0, 0)", x -> x.says(0, 0));
        empty.bad("fewest(0, 0)", x -> x.fewest(0, 0));
        empty.bad("speak(0)", x -> x.speak(0));
        empty.bad("taken(0, 1, 3)", x -> x.taken(0, 1, 3));
        empty.bad("block(0, 0)", x -> x.block(0, 0));
        empty.bad("couple(1)", x -> x.couple(1));
        empty.asks("couple(0)", x -> x.couple(0), -1);
        empty.asks("drop(3)", x -> x.drop(3), 0);
        for (int room = 0; room < 6; room++) {
            int r = room;
            empty.asks("said(" + r + ")", x -> x.said(r), 0);
        }
    }

    private static void noDoorsAndNobodyHears() {
        check.about("terms: DOORS, HEARS: none at first");
        OneNote x = new OneNote();
        for (int a = 0; a < 6; a++) {
            for (int b = 0; b < 6; b++) {
                check.due("byDoor(" + a + ", " + b + ")", x.byDoor(a, b), -3);
                check.due("news(" + a + ", " + b + ", -1)", x.news(a, b, -1), a == b ? 0 : -1);
            }
        }
    }

    private static void nothingElseAtFirst() {
        check.about("terms: at first");
        empty.asks("part(0)", x -> x.part(0), 0);
        empty.asks("part(1)", x -> x.part(1), 1);
        for (int what = 0; what < 3; what++) {
            int asked = what;
            empty.asks("status(" + what + ")", x -> x.status(asked), 0);
        }
        empty.no("from(0)", x -> x.from(0));
        empty.no("from(1)", x -> x.from(1));
        empty.asks("slack(0)", x -> x.slack(0), 0);
        empty.asks("clear()", OneNote::clear, 0);
        empty.asks("hush()", OneNote::hush, 0);
        empty.asks("whole()", OneNote::whole, 0);
        empty.asks("read()", OneNote::read, 0);
        empty.asks("ways()", OneNote::ways, 1);
        empty.asks("fetch(0)", x -> x.fetch(0), 0);
        empty.asks("inTime(0)", x -> x.inTime(0), 0);
        empty.bad("meant(0)", x -> x.meant(0));
        empty.asks("digest()", OneNote::digest, Scene.digestOf(new long[36]) * 31 * 31 + 1);
        check.due("slack(2)", new OneNote().slack(2), 0);
    }

    private static void objectsAreApart() {
        check.about("promise 1: what one object has another one does not");
        OneNote other = fullest.make();
        empty.asks("count(0)", x -> x.count(0), 0);
        OneNote x = new OneNote();
        check.due("digest()", x.digest(), new OneNote().digest());
        x.read();
        x.image(0);
        check.due("count(0) of the other", other.count(0), 7);
        check.due("from(0) of the other", other.from(0), 1);
        check.due("count(0) of the other", other.count(0), 2);
    }

    // ---- 2, 3 door, hears

    private static void doorRooms() {
        check.about("promise 2: BAD; ROOMS 0 .. 5");
        for (Scene scene : scenes) {
            scene.off("door", (x, n) -> x.door(n[0], n[1]), new int[] {2, 5}, 0, 5, 0, 5);
        }
        OneNote x = new OneNote();
        check.due("door(0, 5)", x.door(0, 5), 1);
        check.due("door(5, 4)", x.door(5, 4), 1);
        check.due("door(1, 0)", x.door(1, 0), 1);
    }

    private static void doorAlike() {
        check.about("promise 2: BAD: alike, too");
        for (int room = 0; room < 6; room++) {
            int r = room;
            for (Scene scene : scenes) {
                scene.bad("door(" + r + ", " + r + ")", x -> x.door(r, r));
            }
        }
    }

    private static void doorThere() {
        check.about("promise 2: NO: it is there, either way");
        OneNote x = new OneNote();
        for (int a = 0; a < 6; a++) {
            for (int b = 0; b < a; b++) {
                check.due("door(" + a + ", " + b + ")", x.door(a, b), 1);
            }
        }
        for (int a = 0; a < 6; a++) {
            for (int b = 0; b < 6; b++) {
                check.due("door(" + a + ", " + b + "), all are there", x.door(a, b), a == b ? -2 : -3);
                check.due("byDoor(" + a + ", " + b + ")", x.byDoor(a, b), a == b ? -3 : 0);
            }
        }
        check.due("status(0)", x.status(0), 6);
        check.due("status(1)", x.status(1), 36);
        some.no("door(0, 1)", y -> y.door(0, 1));
        some.no("door(1, 0)", y -> y.door(1, 0));
        fullest.no("door(3, 4)", y -> y.door(3, 4));
    }

    private static void hearsRooms() {
        check.about("promise 3: BAD; ROOMS 0 .. 5");
        for (Scene scene : scenes) {
            scene.off("hears", (x, n) -> x.hears(n[0], n[1]), new int[] {2, 5}, 0, 5, 0, 5);
        }
        OneNote x = new OneNote();
        check.due("hears(0, 5)", x.hears(0, 5), 1);
        check.due("hears(5, 4)", x.hears(5, 4), 1);
        check.due("hears(1, 0)", x.hears(1, 0), 1);
    }

    private static void hearsAlike() {
        check.about("promise 3: BAD: alike, too");
        for (int room = 0; room < 6; room++) {
            int r = room;
            for (Scene scene : scenes) {
                scene.bad("hears(" + r + ", " + r + ")", x -> x.hears(r, r));
            }
        }
    }

    private static void hearsThere() {
        check.about("promise 3: NO: it is so, either way");
        OneNote x = new OneNote();
        for (int a = 0; a < 6; a++) {
            for (int b = a + 1; b < 6; b++) {
                check.due("hears(" + a + ", " + b + ")", x.hears(a, b), 1);
            }
        }
        for (int a = 0; a < 6; a++) {
            for (int b = 0; b < 6; b++) {
                check.due("hears(" + a + ", " + b + "), all do", x.hears(a, b), a == b ? -2 : -3);
                check.due("news(" + a + ", " + b + ", -1)", x.news(a, b, -1), 0);
            }
        }
        check.due("status(0)", x.status(0), 6);
        check.due("status(1)", x.status(1), 30);
        some.no("hears(5, 1)", y -> y.hears(5, 1));
        some.no("hears(1, 5)", y -> y.hears(1, 5));
        fullest.no("hears(5, 3)", y -> y.hears(5, 3));
    }

    private static void doorsAndHearsAreApart() {
        check.about("terms: a DOOR is not HEARS");
        OneNote x = new OneNote();
        x.door(0, 1);
        x.hears(2, 3);
        check.due("news(0, 1, -1)", x.news(0, 1, -1), -1);
        check.due("byDoor(2, 3)", x.byDoor(2, 3), -3);
        check.due("hears(0, 1)", x.hears(0, 1), 1);
        check.due("door(3, 2)", x.door(3, 2), 1);
    }

    // ---- 4 one

    private static void oneRanges() {
        check.about("promise 4: BAD; KINDS 0 .. 5, NOTES 0 .. 11, ROOMS 0 .. 5; BAD ahead of FULL");
        for (Scene scene : scenes) {
            scene.off("one", (x, n) -> x.one(n[0], n[1], n[2]), new int[] {5, 11, 5}, 0, 5, 0, 11, 0, 5);
        }
    }

    private static void oneNumbers() {
        check.about("promise 4: the number; the least and the greatest KIND, NOTE, ROOM");
        OneNote x = new OneNote();
        int[][] told = {{0, 0, 0}, {5, 11, 5}, {0, 11, 5}, {5, 0, 0}, {5, 0, 5}, {0, 11, 0}, {3, 6, 2}};
        for (int p = 0; p < 7; p++) {
            check.due("one, " + p, x.one(told[p][0], told[p][1], told[p][2]), p);
            check.due("count(0)", x.count(0), p + 1);
        }
        long[] all = new long[5 + 30 + 28 + 3];
        all[0] = 7;
        for (int p = 0; p < 7; p++) {
            for (int i = 0; i < 3; i++) {
                all[35 + 4 * p + i] = told[p][i];
            }
            all[35 + 4 * p + 3] = -1;
        }
        all[all.length - 1] = 1;
        check.due("digest()", x.digest(), Scene.digestOf(all));
    }

    private static void oneFull() {
        check.about("promise 4: FULL: 7");
        fullest.full("one(0, 0, 0)", x -> x.one(0, 0, 0));
        fullest.full("one(5, 11, 5)", x -> x.one(5, 11, 5));
        OneNote x = fullest.make();
        x.from(0);
        check.due("one, there are two again", x.one(0, 0, 0), 2);
        Scene six = new Scene(check, "six", y -> {
            for (int p = 0; p < 6; p++) {
                y.one(SINGER, p, p);
            }
        });
        check.due("the seventh", six.make().one(5, 11, 5), 6);
        six.bad("bits of the seventh", y -> y.says(64, 0));
    }

    private static void oneHasNoMateAtFirst() {
        check.about("terms: a MATE: none at first");
        OneNote x = fullest.make();
        x.from(0);
        for (int p = 2; p < 7; p++) {
            x.one(WED, p, 0);
        }
        check.due("sounds(4, 127): the earlier one's MATE is not his", x.sounds(4, 127), Scene.bits(4));
        check.due("mates(2, 4)", x.mates(2, 4), 1);
        check.due("mates(0, 6)", x.mates(0, 6), 1);
    }

    // ---- 5 mates

    private static void matesRanges() {
        check.about("promise 5: BAD: not one of PEOPLE");
        some.off("mates", (x, n) -> x.mates(n[0], n[1]), new int[] {0, 2}, 0, 2, 0, 2);
        fullest.off("mates", (x, n) -> x.mates(n[0], n[1]), new int[] {1, 3}, 0, 6, 0, 6);
        fullest.off("mates, BAD ahead of NO", (x, n) -> x.mates(n[0], n[1]), new int[] {0, 6}, 0, 6, 0, 6);
        OneNote x = some.make();
        check.due("mates(2, 0)", x.mates(2, 0), 1);
        OneNote y = Scene.people(0, 0, 0, 0, 0, 0, 0, 0, 0, 0, 0, 0, 0, 0);
        check.due("mates(0, 6)", y.mates(0, 6), 1);
    }

    private static void matesAlike() {
        check.about("promise 5: BAD: alike, too");
        for (int person = 0; person < 3; person++) {
            int p = person;
            some.bad("mates(" + p + ", " + p + ")", x -> x.mates(p, p));
        }
        fullest.bad("mates(2, 2), who has a MATE", x -> x.mates(2, 2));
    }

    private static void matesHaveOne() {
        check.about("promise 5: NO: one has a MATE");
        fullest.no("mates(2, 4), each other's", x -> x.mates(2, 4));
        fullest.no("mates(4, 2), each other's", x -> x.mates(4, 2));
        fullest.no("mates(2, 1), the first has", x -> x.mates(2, 1));
        fullest.no("mates(1, 2), the second has", x -> x.mates(1, 2));
        fullest.no("mates(0, 4), both have", x -> x.mates(0, 4));
        fullest.no("mates(5, 6)", x -> x.mates(5, 6));
        OneNote x = fullest.make();
        check.due("mates(5, 1), none has", x.mates(5, 1), 1);
        check.due("mates(1, 3), one has now", x.mates(1, 3), -3);
    }

    // ---- 6 goes

    private static void goesRanges() {
        check.about("promise 6: BAD: not one of PEOPLE, not one of ROOMS");
        some.off("goes", (x, n) -> x.goes(n[0], n[1]), new int[] {2, 0}, 0, 2, 0, 5);
        fullest.off("goes", (x, n) -> x.goes(n[0], n[1]), new int[] {6, 0}, 0, 6, 0, 5);
    }

    private static void goesEdges() {
        check.about("promise 6: where he was; no DOOR is asked for");
        OneNote x = some.make();
        check.due("goes(0, 5)", x.goes(0, 5), 0);
        check.due("goes(0, 5), he is there", x.goes(0, 5), 5);
        check.due("goes(2, 0)", x.goes(2, 0), 5);
        check.due("goes(2, 0), he is there", x.goes(2, 0), 0);
        OneNote y = fullest.make();
        for (int r = 5, was = 5; r >= 0; r--) {
            check.due("goes(6, " + r + ")", y.goes(6, r), was);
            was = r;
        }
        some.asks("goes to where one is", z -> z.goes(1, 1), 1);
    }

    // ---- 7 chord

    private static void chordRanges() {
        check.about("promise 7: BAD; NOTES 0 .. 11, USED 1 .. 9; BAD ahead of FULL");
        for (Scene scene : scenes) {
            scene.off("chord", (x, n) -> x.chord(n[0], n[1], n[2], n[3]), new int[] {2, 3, 4, 9},
                0, 11, 0, 11, 0, 11, 1, 9);
        }
        OneNote x = new OneNote();
        check.due("chord(0, 1, 2, 1)", x.chord(0, 1, 2, 1), 0);
        check.due("chord(9, 10, 11, 9)", x.chord(9, 10, 11, 9), 1);
        check.due("chord(0, 1, 11, 1)", x.chord(0, 1, 11, 1), 2);
        check.due("chord(0, 10, 11, 9)", x.chord(0, 10, 11, 9), 3);
    }

    private static void chordRising() {
        check.about("promise 7: BAD: not a below b below c");
        for (Scene scene : scenes) {
            for (int[] n : new int[][] {{2, 2, 3}, {2, 3, 3}, {2, 2, 2}, {2, 1, 3}, {2, 4, 3}, {3, 2, 1}, {3, 1, 2},
                {11, 0, 1}, {10, 11, 0}, {0, 0, 11}, {0, 11, 11}}) {
                scene.bad("chord(" + n[0] + ", " + n[1] + ", " + n[2] + ", 1)", x -> x.chord(n[0], n[1], n[2], 1));
            }
        }
    }

    private static void chordAlike() {
        check.about("promise 7: BAD: one is alike, too; BAD ahead of FULL");
        some.bad("the first, the same USED", x -> x.chord(0, 4, 7, 3));
        some.bad("the first, another USED", x -> x.chord(0, 4, 7, 9));
        some.bad("the last", x -> x.chord(4, 5, 7, 1));
        fullest.bad("the first, full", x -> x.chord(0, 4, 9, 1));
        fullest.bad("the last, full", x -> x.chord(1, 9, 11, 1));
        OneNote x = some.make();
        check.due("two notes alike are none", x.chord(0, 4, 8, 3), 2);
        OneNote y = fullest.make();
        y.from(1);
        check.due("one that an IMAGE did not have", y.chord(1, 9, 11, 7), 2);
        check.due("it is there now", y.chord(1, 9, 11, 7), -2);
    }

    private static void chordFull() {
        check.about("promise 7: FULL: 8");
        OneNote x = new OneNote();
        for (int c = 0; c < 8; c++) {
            check.due("chord " + c, x.chord(c, c + 1, c + 2, c + 1), c);
            check.due("count(1)", x.count(1), c + 1);
        }
        check.due("the ninth", x.chord(9, 10, 11, 9), -4);
        check.due("count(1)", x.count(1), 8);
        check.due("status(2)", x.status(2), 1);
        fullest.full("chord(0, 1, 2, 1)", y -> y.chord(0, 1, 2, 1));
        fullest.full("chord(9, 10, 11, 9)", y -> y.chord(9, 10, 11, 9));
    }

    // ---- 8 slack

    private static void slackRange() {
        check.about("promise 8: BAD; SLACK 0 .. 2");
        for (Scene scene : scenes) {
            scene.off("slack", (x, n) -> x.slack(n[0]), new int[] {0}, 0, 2);
        }
    }

    private static void slackEdges() {
        check.about("promise 8: what it was");
        OneNote x = new OneNote();
        int was = 0;
        for (int v : new int[] {0, 0, 1, 1, 2, 2, 0, 2, 1, 0}) {
            check.due("slack(" + v + ")", x.slack(v), was);
            was = v;
        }
        check.due("slack(3)", x.slack(3), -2);
        check.due("slack(2), as if nothing had been told", x.slack(2), 0);
    }

    // ---- 9 sounds

    private static void soundsRefused() {
        check.about("promise 9: BAD: not in it, bits of nobody, too");
        some.off("sounds", (x, n) -> x.sounds(n[0], n[1]), new int[] {2, 7}, 0, 2, 0, 7);
        fullest.off("sounds", (x, n) -> x.sounds(n[0], n[1]), new int[] {6, 127}, 0, 6, 0, 127);
        for (int person = 0; person < 7; person++) {
            int p = person;
            fullest.bad("sounds(" + p + "), the others", x -> x.sounds(p, 127 & ~(1 << p)));
            fullest.bad("sounds(" + p + "), nobody", x -> x.sounds(p, 0));
            fullest.bad("sounds(" + p + "), nobody's bit too", x -> x.sounds(p, 1 << p | 128));
        }
        some.bad("the bit of one who has not come", x -> x.sounds(0, 9));
        some.bad("one who has not come, by his bit", x -> x.sounds(3, 8));
    }

    private static void soundsOverTheRing() {
        check.about("terms: more is by 12 left over");
        for (int note = 0; note < 12; note++) {
            int n = note;
            OneNote x = Scene.people(SINGER, n, LIAR, n, WED, n, CHILD, n, TWIN, n, MILLER, n, WED, n);
            x.mates(6, 2);
            int one = 1 << (n + 1) % 12;
            int six = 1 << (n + 6) % 12;
            int seven = 1 << (n + 7) % 12;
            int[] due = {1 << n, one, 1 << n | seven, 1 << n | one, 1 << n | one, 1 << n | one | six, 1 << n | seven};
            for (int slack = 0; slack < 3; slack++) {
                x.slack(slack);
                for (int p = 0; p < 7; p++) {
                    check.due("sounds(" + p + ", 127), NOTE " + n + ", SLACK " + slack, x.sounds(p, 127), due[p]);
                }
            }
        }
    }

    private static void liarAlone() {
        check.about("terms: LIAR: NOTE, if it is alone in the SET; else one more");
        for (int place = 0; place < 7; place++) {
            OneNote x = new OneNote();
            for (int p = 0; p < 7; p++) {
                x.one(p == place ? LIAR : SINGER, 11, p % 6);
            }
            check.due("alone, " + place, x.sounds(place, 1 << place), 1 << 11);
            for (int p = 0; p < 7; p++) {
                if (p != place) {
                    check.due("with " + p, x.sounds(place, 1 << place | 1 << p), 1);
                }
            }
            check.due("with all", x.sounds(place, 127), 1);
        }
        OneNote two = Scene.people(LIAR, 0, LIAR, 5);
        check.due("two LIARS", two.sounds(0, 3), 2);
        check.due("two LIARS", two.sounds(1, 3), 1 << 6);
    }

    private static void wedWithMate() {
        check.about("terms: WED: with MATE in the SET, 7 more");
        OneNote x = Scene.people(WED, 5, WED, 4, SINGER, 0, WED, 11);
        check.due("without a MATE", x.sounds(0, 15), 1 << 5);
        x.mates(0, 2);
        check.due("the MATE is not in the SET", x.sounds(0, 11), 1 << 5);
        check.due("the MATE is in the SET: 12 is 0", x.sounds(0, 5), 1 << 5 | 1);
        check.due("the MATE is no WED", x.sounds(2, 5), 1);
        check.due("another WED is no MATE", x.sounds(1, 9 | 2), 1 << 4);
        x.mates(3, 1);
        check.due("11 and 6", x.sounds(3, 10), 1 << 11 | 1 << 6);
        check.due("4 and 11", x.sounds(1, 15), 1 << 4 | 1 << 11);
        OneNote kinds = Scene.people(LIAR, 0, CHILD, 0, TWIN, 0, MILLER, 0);
        kinds.mates(0, 1);
        kinds.mates(2, 3);
        check.due("a LIAR with MATE", kinds.sounds(0, 15), 2);
        check.due("a CHILD with MATE", kinds.sounds(1, 15), 3);
        check.due("a TWIN with MATE", kinds.sounds(2, 15), 3);
        check.due("a MILLER with MATE", kinds.sounds(3, 15), 3 | 1 << 6);
    }
}
