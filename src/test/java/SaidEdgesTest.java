/** The edges of promises 13 to 20 (what is said), a sentence of the document each. */
public final class SaidEdgesTest {
    private static final int SINGER = Scene.SINGER, LIAR = Scene.LIAR, WED = Scene.WED, CHILD = Scene.CHILD;
    private static final int TWIN = Scene.TWIN, MILLER = Scene.MILLER;
    private static final Check check = new Check();
    private static final Scene empty = Scene.empty(check), some = Scene.some(check), fullest = Scene.fullest(check);
    private static final Scene[] scenes = {empty, some, fullest};

    public static void main(String[] args) {
        saysRefused();
        saysByNobody();
        eachFillsOne();
        twinsFillTwo();
        twinsFillTwoByOneSound();
        liarsSay();
        wedOnesSay();
        slackOverTheRing();
        saidRefused();
        saidEdges();
        byDoorRefused();
        byDoorWithoutDoor();
        byDoorEdges();
        fewestRefused();
        fewestNone();
        fewestOfLikeOnes();
        speakRefused();
        speakFull();
        hushEdges();
        fetchRefused();
        fetchNone();
        fetchNobody();
        fetchSteps();
        fetchOverAllDoors();
        fetchLeastRoom();
        fetchFewestPeople();
        fetchLeastBits();
        inTimeRefused();
        inTimeEdges();
        inTimeOfEach();
        check.end();
    }

    /** One ROOM's people, one CHORD. */
    private static OneNote choir(int a, int b, int c, int... kindsAndNotes) {
        OneNote x = Scene.people(kindsAndNotes);
        x.chord(a, b, c, 1);
        return x;
    }

    // ---- 13 says

    private static void saysRefused() {
        check.about("promise 13: BAD: bits of nobody, not one of CHORDS");
        some.off("says", (x, n) -> x.says(n[0], n[1]), new int[] {7, 1}, 0, 7, 0, 1);
        fullest.off("says", (x, n) -> x.says(n[0], n[1]), new int[] {127, 7}, 0, 127, 0, 7);
        empty.bad("says(0, 0)", x -> x.says(0, 0));
        some.asks("says(7, 0)", x -> x.says(7, 0), 1);
        some.asks("says(0, 1)", x -> x.says(0, 1), 0);
        some.bad("says(8, 0)", x -> x.says(8, 0));
        some.bad("says(15, 0)", x -> x.says(15, 0));
        some.bad("says(7, 2)", x -> x.says(7, 2));
    }

    private static void saysByNobody() {
        check.about("terms: a SET of nobody SAYS none");
        for (int chord = 0; chord < 8; chord++) {
            int c = chord;
            fullest.asks("says(0, " + c + ")", x -> x.says(0, c), 0);
        }
    }

    private static void eachFillsOne() {
        check.about("terms: three notes, each by one of it; each fills one");
        for (int kind : new int[] {SINGER, LIAR, WED, CHILD}) {
            int less = kind == LIAR ? 11 : 0;
            OneNote x = choir(0, 4, 8, kind, less, kind, (4 + less) % 12, kind, (8 + less) % 12);
            check.due("KIND " + kind + ", three", x.says(7, 0), 1);
            check.due("KIND " + kind + ", two", x.says(3, 0), 0);
            check.due("KIND " + kind + ", two", x.says(5, 0), 0);
            check.due("KIND " + kind + ", two", x.says(6, 0), 0);
        }
        OneNote child = choir(0, 1, 5, CHILD, 0, SINGER, 5, CHILD, 0);
        check.due("one CHILD is at 0 or at 1", child.says(3, 0), 0);
        check.due("two CHILDREN are at 0 and at 1", child.says(7, 0), 1);
        OneNote wed = choir(0, 7, 9, WED, 0, WED, 2);
        wed.mates(0, 1);
        check.due("WED 0 or 7, WED 2 or 9: two fill two", wed.says(3, 0), 0);
        OneNote many = choir(0, 4, 8, SINGER, 0, SINGER, 0, SINGER, 0, SINGER, 4, SINGER, 4, SINGER, 0, SINGER, 0);
        check.due("seven, but nobody at 8", many.says(127, 0), 0);
    }

    private static void twinsFillTwo() {
        check.about("terms: TWIN, MILLER: two, and no more");
        OneNote twin = choir(0, 1, 2, TWIN, 0, TWIN, 1, SINGER, 2, CHILD, 2, TWIN, 11);
        check.due("TWIN 0, 1 and SINGER 2", twin.says(5, 0), 1);
        check.due("TWIN 0, 1 alone", twin.says(1, 0), 0);
        check.due("TWIN 0, 1 and TWIN 1, 2", twin.says(3, 0), 1);
        check.due("TWIN 1, 2 and SINGER 2", twin.says(6, 0), 0);
        check.due("TWIN 11, 0 and TWIN 1, 2: over the ring", twin.says(18, 0), 1);
        OneNote miller = choir(0, 1, 6, MILLER, 0, SINGER, 0, SINGER, 1, SINGER, 6);
        check.due("a MILLER has all three notes, and fills two", miller.says(1, 0), 0);
        check.due("MILLER 1, 6", miller.says(3, 0), 1);
        check.due("MILLER 0, 6", miller.says(5, 0), 1);
        check.due("MILLER 0, 1", miller.says(9, 0), 1);
        OneNote ring = choir(0, 5, 11, MILLER, 11, SINGER, 0, SINGER, 5, SINGER, 11);
        check.due("MILLER 11, 0, 5: over the ring", ring.says(1, 0), 0);
        check.due("MILLER 5, 11", ring.says(3, 0), 1);
        check.due("MILLER 0, 11", ring.says(5, 0), 1);
        check.due("MILLER 0, 5", ring.says(9, 0), 1);
    }

    private static void twinsFillTwoByOneSound() {
        check.about("terms: what one SOUNDS fills a note it is no more than SLACK APART from");
        OneNote x = choir(3, 4, 9, TWIN, 4, SINGER, 9);
        check.due("TWIN 4, 5, SLACK 0", x.says(3, 0), 0);
        x.slack(1);
        check.due("TWIN 4 fills 3 and 4, SLACK 1", x.says(3, 0), 1);
        check.due("but not 9", x.says(1, 0), 0);
        x.slack(2);
        check.due("SINGER alone, SLACK 2", x.says(2, 0), 0);
        OneNote y = choir(3, 4, 5, TWIN, 4, SINGER, 7);
        y.slack(2);
        check.due("a TWIN near all three fills two", y.says(1, 0), 0);
        check.due("with a SINGER", y.says(3, 0), 1);
    }

    private static void liarsSay() {
        check.about("terms: a LIAR with others is one more");
        OneNote x = choir(0, 4, 8, LIAR, 11, SINGER, 4, SINGER, 8, SINGER, 0, SINGER, 3);
        check.due("LIAR at 0", x.says(7, 0), 1);
        check.due("the SINGER in his place", x.says(14, 0), 1);
        OneNote own = choir(0, 4, 11, LIAR, 11, SINGER, 4, SINGER, 0);
        check.due("not at 11", own.says(7, 0), 0);
    }

    private static void wedOnesSay() {
        check.about("terms: a WED's 7 more, with MATE in the SET");
        OneNote x = choir(0, 4, 8, WED, 5, WED, 1, SINGER, 4);
        check.due("5 and 1, no MATES", x.says(7, 0), 0);
        x.mates(1, 0);
        check.due("12 is 0, and 8", x.says(7, 0), 1);
        check.due("without the SINGER", x.says(3, 0), 0);
        check.due("without one MATE", x.says(6, 0), 0);
        check.due("without the other", x.says(5, 0), 0);
    }

    private static void slackOverTheRing() {
        check.about("terms: SLACK on the ring");
        for (int note = 0; note < 12; note++) {
            for (int other = 0; other < 12; other++) {
                int[] n = {note, (note + 5) % 12, (note + 7) % 12};
                OneNote x = Scene.people(SINGER, other, SINGER, n[1], SINGER, n[2]);
                java.util.Arrays.sort(n);
                x.chord(n[0], n[1], n[2], 1);
                for (int slack = 0; slack < 3; slack++) {
                    x.slack(slack);
                    check.due(other + " fills " + note + ", SLACK " + slack, x.says(7, 0),
                        Scene.apart(note, other) <= slack ? 1 : 0);
                }
            }
        }
        OneNote far = choir(0, 4, 8, SINGER, 10, SINGER, 4, SINGER, 8);
        int[] due = {0, 0, 1};
        for (int slack = 0; slack < 3; slack++) {
            far.slack(slack);
            check.due("10 fills 0, SLACK " + slack, far.says(7, 0), due[slack]);
        }
        OneNote three = choir(0, 4, 8, SINGER, 3, SINGER, 7, SINGER, 11);
        three.slack(1);
        check.due("all are one off", three.says(7, 0), 1);
        OneNote off = choir(0, 4, 8, SINGER, 9, SINGER, 1, SINGER, 5);
        off.slack(2);
        check.due("9, 1, 5 are 1 off, 9 and 0 are 3 off", off.says(7, 0), 1);
        OneNote none = choir(0, 1, 2, SINGER, 11, SINGER, 1, SINGER, 5);
        none.slack(2);
        check.due("5 is 3 off", none.says(7, 0), 0);
    }

    // ---- 14 said

    private static void saidRefused() {
        check.about("promise 14: BAD; ROOMS 0 .. 5");
        for (Scene scene : scenes) {
            scene.off("said", (x, n) -> x.said(n[0]), new int[] {0}, 0, 5);
        }
    }

    private static void saidEdges() {
        check.about("promise 14: CHORDS (bits) that those in it SAY: none, all");
        OneNote x = new OneNote();
        for (int p = 0; p < 7; p++) {
            x.one(TWIN, 2 * p % 12, 5);
        }
        for (int r = 0; r < 6; r++) {
            check.due("said(" + r + "), no CHORDS", x.said(r), 0);
        }
        for (int c = 0; c < 8; c++) {
            x.chord(0, c + 1, 11, 1);
        }
        check.due("said(5), all", x.said(5), 255);
        for (int r = 0; r < 5; r++) {
            check.due("said(" + r + "), nobody", x.said(r), 0);
        }
        x.goes(0, 0);
        check.due("said(0), one", x.said(0), 0);
        OneNote last = new OneNote();
        for (int c = 0; c < 7; c++) {
            last.chord(0, c + 1, 10, 1);
        }
        last.chord(9, 10, 11, 1);
        last.one(TWIN, 9, 0);
        last.one(SINGER, 11, 0);
        check.due("said(0), the last CHORD alone", last.said(0), 128);
        OneNote liar = choir(0, 1, 2, LIAR, 0, TWIN, 1);
        check.due("said(0): the LIAR is not at 0 among others", liar.said(0), 0);
    }

    // ---- 15 byDoor

    private static void byDoorRefused() {
        check.about("promise 15: BAD; ROOMS 0 .. 5; BAD ahead of NO");
        for (Scene scene : scenes) {
            scene.off("byDoor", (x, n) -> x.byDoor(n[0], n[1]), new int[] {0, 1}, 0, 5, 0, 5);
            scene.off("byDoor, no DOOR", (x, n) -> x.byDoor(n[0], n[1]), new int[] {2, 5}, 0, 5, 0, 5);
        }
    }

    private static void byDoorWithoutDoor() {
        check.about("promise 15: NO: no DOOR");
        empty.no("byDoor(0, 5)", x -> x.byDoor(0, 5));
        some.no("byDoor(0, 2)", x -> x.byDoor(0, 2));
        some.no("byDoor(1, 5), they HEAR one another", x -> x.byDoor(1, 5));
        fullest.no("byDoor(0, 2), a DOOR over another ROOM", x -> x.byDoor(0, 2));
        for (int room = 0; room < 6; room++) {
            int r = room;
            fullest.no("byDoor(" + r + ", " + r + ")", x -> x.byDoor(r, r));
        }
    }

    private static void byDoorEdges() {
        check.about("promise 15: those in two ROOMS with a DOOR together");
        OneNote x = choir(0, 1, 2, TWIN, 0, SINGER, 2, SINGER, 2);
        x.door(5, 0);
        x.door(3, 4);
        x.goes(1, 5);
        x.goes(2, 3);
        check.due("byDoor(0, 5)", x.byDoor(0, 5), 1);
        check.due("byDoor(5, 0)", x.byDoor(5, 0), 1);
        check.due("byDoor(3, 4), one", x.byDoor(3, 4), 0);
        x.goes(2, 0);
        check.due("byDoor(4, 3), nobody", x.byDoor(4, 3), 0);
        x.goes(1, 0);
        check.due("byDoor(0, 5), nobody in the other", x.byDoor(0, 5), 1);
        OneNote liar = choir(0, 1, 2, LIAR, 11, TWIN, 1);
        liar.goes(1, 1);
        liar.door(0, 1);
        check.due("a LIAR is not alone then", liar.byDoor(0, 1), 1);
    }

    // ---- 16 fewest

    private static void fewestRefused() {
        check.about("promise 16: BAD: bits of nobody, not one of CHORDS");
        some.off("fewest", (x, n) -> x.fewest(n[0], n[1]), new int[] {7, 1}, 0, 7, 0, 1);
        fullest.off("fewest", (x, n) -> x.fewest(n[0], n[1]), new int[] {127, 7}, 0, 127, 0, 7);
    }

    private static void fewestNone() {
        check.about("promise 16: NONE: none does");
        some.asks("fewest(0, 0), nobody", x -> x.fewest(0, 0), -1);
        some.asks("fewest(3, 0), nobody at 7", x -> x.fewest(3, 0), -1);
        some.asks("fewest(7, 0)", x -> x.fewest(7, 0), 7);
        some.asks("fewest(7, 1)", x -> x.fewest(7, 1), 6);
        fullest.asks("fewest(0, 7)", x -> x.fewest(0, 7), -1);
    }

    private static void fewestOfLikeOnes() {
        check.about("terms: FEWEST: of like ones the least bits");
        OneNote x = choir(0, 4, 8, SINGER, 0, SINGER, 0, SINGER, 4, SINGER, 4, SINGER, 8, SINGER, 8, TWIN, 8);
        check.due("fewest(127, 0)", x.fewest(127, 0), Scene.bits(0, 2, 4));
        check.due("without 0", x.fewest(126, 0), Scene.bits(1, 2, 4));
        check.due("without 4 and 5", x.fewest(127 & ~48, 0), Scene.bits(0, 2, 6));
        check.due("the greatest three", x.fewest(Scene.bits(1, 3, 6), 0), Scene.bits(1, 3, 6));
        OneNote few = choir(0, 1, 5, SINGER, 0, SINGER, 1, SINGER, 5, TWIN, 0, TWIN, 0, SINGER, 5, MILLER, 11);
        check.due("two of greater bits ahead of three of lesser ones", few.fewest(127, 0), Scene.bits(2, 3));
        check.due("the least bits of two", few.fewest(127 & ~4, 0), Scene.bits(3, 5));
        check.due("MILLER 0, 5 and SINGER 1", few.fewest(Scene.bits(0, 1, 6), 0), Scene.bits(1, 6));
        OneNote liar = choir(0, 1, 2, SINGER, 0, SINGER, 1, LIAR, 1, SINGER, 2);
        check.due("a LIAR at 2", liar.fewest(15, 0), 7);
        check.due("the whole SET", liar.fewest(7, 0), 7);
    }

    // ---- 17 speak

    private static void speakRefused() {
        check.about("promise 17: BAD: not one of CHORDS; BAD ahead of FULL");
        some.off("speak", (x, n) -> x.speak(n[0]), new int[] {0}, 0, 1);
        fullest.off("speak", (x, n) -> x.speak(n[0]), new int[] {0}, 0, 7);
        empty.bad("speak(0)", x -> x.speak(0));
    }

    private static void speakFull() {
        check.about("promise 17: FULL: 6");
        for (int chord = 0; chord < 8; chord++) {
            int c = chord;
            fullest.full("speak(" + c + ")", x -> x.speak(c));
        }
        OneNote x = some.make();
        for (int i = 2; i <= 6; i++) {
            check.due("speak(1), " + i, x.speak(1), i);
            check.due("count(2)", x.count(2), i);
        }
        check.due("speak(1), 7", x.speak(1), -4);
        check.due("speak(2), full", x.speak(2), -2);
        check.due("count(2)", x.count(2), 6);
        check.due("status(2)", x.status(2), 1);
    }

    // ---- 18 hush

    private static void hushEdges() {
        check.about("promise 18: THE SPEECH is empty: how many it had");
        empty.asks("hush(), empty", OneNote::hush, 0);
        OneNote x = fullest.make();
        check.due("hush(), full", x.hush(), 6);
        check.due("count(2)", x.count(2), 0);
        check.due("hush(), again", x.hush(), 0);
        check.due("fetch(2): nobody is needed", x.fetch(2), 0);
        check.due("count(1): CHORDS stay", x.count(1), 8);
        check.due("count(3): HOLES stay", x.count(3), 6);
        check.due("speak(7): the first again", x.speak(7), 1);
    }

    // ---- 19 fetch

    private static void fetches(OneNote x, String why, int steps, int room, int set) {
        check.due("fetch(0), " + why, x.fetch(0), steps);
        check.due("fetch(1), " + why, x.fetch(1), room);
        check.due("fetch(2), " + why, x.fetch(2), set);
    }

    /** People told by KIND, NOTE and ROOM; one CHORD, which is THE SPEECH. */
    private static OneNote valley(int a, int b, int c, int... told) {
        OneNote x = new OneNote();
        for (int i = 0; i + 2 < told.length; i += 3) {
            x.one(told[i], told[i + 1], told[i + 2]);
        }
        x.chord(a, b, c, 1);
        x.speak(0);
        return x;
    }

    private static void doorsInARow(OneNote x) {
        for (int r = 0; r < 5; r++) {
            x.door(r, r + 1);
        }
    }

    private static void fetchRefused() {
        check.about("promise 19: BAD: what is not 0, 1, 2");
        for (Scene scene : scenes) {
            scene.off("fetch", (x, n) -> x.fetch(n[0]), new int[] {0}, 0, 2);
        }
    }

    private static void fetchNone() {
        check.about("promise 19: NONE: none");
        for (int what = 0; what < 3; what++) {
            int asked = what;
            some.asks("fetch(" + what + "), no DOOR leads there", x -> x.fetch(asked), -1);
        }
        OneNote x = valley(0, 4, 8);
        fetches(x, "nobody", -1, -1, -1);
        x.one(TWIN, 3, 0);
        fetches(x, "one", -1, -1, -1);
        x.one(TWIN, 8, 1);
        x.hears(0, 1);
        fetches(x, "HEARS is no DOOR, and nobody is at 0", -1, -1, -1);
        OneNote y = valley(0, 4, 5, SINGER, 0, 0, TWIN, 4, 1);
        y.hears(0, 1);
        fetches(y, "HEARS is no DOOR", -1, -1, -1);
        y.door(1, 0);
        fetches(y, "a DOOR", 1, 0, 3);
        OneNote two = valley(0, 4, 5, SINGER, 0, 0, TWIN, 4, 0);
        two.chord(1, 4, 5, 1);
        fetches(two, "the one", 0, 0, 3);
        two.speak(1);
        fetches(two, "not both", -1, -1, -1);
        two.hush();
        two.speak(1);
        fetches(two, "not the other", -1, -1, -1);
        two.speak(0);
        fetches(two, "not both, the other first", -1, -1, -1);
        two.one(CHILD, 0, 5);
        two.door(5, 0);
        fetches(two, "the CHILD at 0 or 1, and the TWIN", 1, 0, 6);
    }

    private static void fetchNobody() {
        check.about("promise 19: an empty SPEECH is held by nobody, in the least ROOM");
        for (int what = 0; what < 3; what++) {
            int asked = what;
            empty.asks("fetch(" + what + ")", x -> x.fetch(asked), 0);
        }
        OneNote x = fullest.make();
        x.hush();
        fetches(x, "hushed", 0, 0, 0);
    }

    private static void fetchSteps() {
        check.about("terms: FETCH: the fewest STEPS in all");
        OneNote far = valley(0, 4, 8, SINGER, 0, 0, SINGER, 4, 5, SINGER, 8, 5);
        fetches(far, "no DOORS", -1, -1, -1);
        doorsInARow(far);
        fetches(far, "5 STEPS by one ahead of 5 each by two", 5, 5, 7);
        OneNote apart = valley(0, 4, 8, SINGER, 0, 0, SINGER, 4, 3, SINGER, 8, 5);
        doorsInARow(apart);
        fetches(apart, "3 and 2 to the one between", 5, 3, 7);
        apart.door(0, 5);
        fetches(apart, "over the shorter way", 3, 5, 7);
        OneNote there = valley(0, 4, 5, SINGER, 0, 4, TWIN, 4, 4);
        fetches(there, "0 STEPS need no DOOR", 0, 4, 3);
        OneNote last = valley(0, 4, 5, SINGER, 0, 5, TWIN, 4, 5);
        fetches(last, "in the last ROOM", 0, 5, 3);
        OneNote more = valley(0, 4, 5, SINGER, 0, 0, TWIN, 4, 1, SINGER, 4, 0, SINGER, 5, 0);
        more.door(0, 1);
        fetches(more, "fewer STEPS ahead of fewer PEOPLE", 0, 0, 13);
        OneNote later = valley(0, 4, 5, SINGER, 0, 0, TWIN, 4, 1, SINGER, 0, 5, TWIN, 4, 5);
        later.door(0, 1);
        fetches(later, "fewer STEPS ahead of the least ROOM", 0, 5, 12);
        OneNote between = valley(0, 4, 8, SINGER, 0, 1, SINGER, 4, 2, SINGER, 8, 3);
        between.door(0, 1);
        between.door(0, 2);
        between.door(0, 3);
        fetches(between, "3 STEPS to the ROOM where nobody is", 3, 0, 7);
    }

    private static void fetchOverAllDoors() {
        check.about("terms: FETCH: STEPS by DOORS, over whichever");
        int[][] valleys = {
            {0, 1, 0, 2, 1, 3, 2, 4, 4, 5}, {5, 3, 5, 2, 3, 1, 2, 0, 0, 4}, {0, 1, 1, 2, 2, 0, 3, 4, 4, 5, 5, 3},
            {0, 1, 1, 2, 2, 3, 3, 4, 4, 5, 5, 0}, {0, 3, 0, 4, 0, 5, 1, 3, 1, 4, 1, 5, 2, 3}, {2, 3}, {}};
        for (int[] doors : valleys) {
            int[][] far = farByTrying(doors);
            for (int a = 0; a < 6; a++) {
                for (int b = 0; b < 6; b++) {
                    OneNote x = valley(0, 4, 5, SINGER, 0, a, TWIN, 4, b);
                    for (int i = 0; i + 1 < doors.length; i += 2) {
                        x.door(doors[i], doors[i + 1]);
                    }
                    int due = far[a][b] > 5 ? -1 : far[a][b];
                    check.due("fetch(0), " + java.util.Arrays.toString(doors) + ", " + a + " to " + b, x.fetch(0), due);
                    check.due("inTime(9)", x.inTime(9), due);
                    check.due("inTime(1)", x.inTime(1), due > 2 ? -1 : due);
                }
            }
        }
    }

    private static int[][] farByTrying(int[] doors) {
        int[][] far = new int[6][6];
        for (int a = 0; a < 6; a++) {
            java.util.Arrays.fill(far[a], 100);
            far[a][a] = 0;
        }
        for (int i = 0; i + 1 < doors.length; i += 2) {
            far[doors[i]][doors[i + 1]] = 1;
            far[doors[i + 1]][doors[i]] = 1;
        }
        for (int over = 0; over < 6; over++) {
            for (int a = 0; a < 6; a++) {
                for (int b = 0; b < 6; b++) {
                    far[a][b] = Math.min(far[a][b], far[a][over] + far[over][b]);
                }
            }
        }
        return far;
    }

    private static void fetchLeastRoom() {
        check.about("terms: FETCH: of like ones the least ROOM");
        OneNote x = valley(0, 4, 5, SINGER, 0, 5, TWIN, 4, 3);
        x.door(3, 4);
        x.door(4, 5);
        fetches(x, "2 STEPS to 3, 4 or 5", 2, 3, 3);
        OneNote y = valley(0, 4, 5, SINGER, 0, 5, TWIN, 4, 5, TWIN, 4, 2, SINGER, 0, 2);
        fetches(y, "0 STEPS in 2 and in 5", 0, 2, 12);
        OneNote z = valley(0, 4, 5, SINGER, 0, 5, TWIN, 4, 5, SINGER, 0, 2, SINGER, 4, 2, SINGER, 5, 2);
        fetches(z, "the least ROOM ahead of the fewest PEOPLE", 0, 2, 28);
    }

    private static void fetchFewestPeople() {
        check.about("terms: FETCH: then the fewest PEOPLE");
        OneNote x = valley(0, 4, 5, SINGER, 0, 1, SINGER, 4, 1, SINGER, 5, 1, SINGER, 0, 1, SINGER, 0, 1, TWIN, 4, 1);
        fetches(x, "two of greater bits ahead of three", 0, 1, Scene.bits(0, 5));
        OneNote liar = valley(0, 4, 5, LIAR, 11, 0, SINGER, 4, 0, SINGER, 5, 0);
        fetches(liar, "a LIAR, not alone", 0, 0, 7);
        fetches(valley(0, 4, 5, SINGER, 0, 0, TWIN, 4, 0, TWIN, 4, 0, TWIN, 4, 0), "nobody who is not needed", 0, 0, 3);
    }

    private static void fetchLeastBits() {
        check.about("terms: FETCH: then the least bits");
        OneNote x = valley(0, 4, 5, TWIN, 4, 2, TWIN, 4, 2, SINGER, 0, 2, SINGER, 0, 2);
        fetches(x, "of four like ones", 0, 2, Scene.bits(0, 2));
        x.goes(0, 3);
        fetches(x, "of two like ones", 0, 2, Scene.bits(1, 2));
        OneNote seven = valley(0, 4, 5, SINGER, 1, 0, SINGER, 1, 0, SINGER, 1, 0, SINGER, 1, 0, SINGER, 1, 0,
            SINGER, 0, 0, TWIN, 4, 0);
        fetches(seven, "the last two of seven", 0, 0, 96);
    }

    // ---- 20 inTime

    private static void inTimeRefused() {
        check.about("promise 20: BAD: t not 0 .. 9");
        for (Scene scene : scenes) {
            scene.off("inTime", (x, n) -> x.inTime(n[0]), new int[] {0}, 0, 9);
        }
    }

    private static void inTimeEdges() {
        check.about("promise 20: NONE; an empty SPEECH: 0 STEPS");
        for (int time = 0; time <= 9; time++) {
            int t = time;
            empty.asks("inTime(" + t + ")", x -> x.inTime(t), 0);
            some.asks("inTime(" + t + "), no DOOR leads there", x -> x.inTime(t), -1);
        }
    }

    private static void inTimeOfEach() {
        check.about("terms: IN TIME: nobody goes more than t STEPS");
        for (int end = 1; end <= 5; end++) {
            OneNote x = valley(0, 4, 5, SINGER, 0, 0, TWIN, 4, end);
            for (int r = 0; r < end; r++) {
                x.door(r, r + 1);
            }
            for (int t = 0; t <= 9; t++) {
                check.due("inTime(" + t + "), ROOMS 0 and " + end, x.inTime(t), 2 * t < end ? -1 : end);
            }
        }
        OneNote one = valley(0, 4, 8, SINGER, 0, 0, SINGER, 4, 5, SINGER, 8, 5);
        doorsInARow(one);
        int[] due = {-1, -1, -1, 7, 6, 5, 5, 5, 5, 5};
        for (int t = 0; t <= 9; t++) {
            check.due("inTime(" + t + "): more STEPS in all, fewer of each", one.inTime(t), due[t]);
        }
        check.due("fetch(0): without a time", one.fetch(0), 5);
        OneNote other = valley(0, 4, 5, SINGER, 0, 0, TWIN, 4, 3, SINGER, 4, 1, SINGER, 5, 1, SINGER, 0, 5);
        doorsInARow(other);
        check.due("inTime(0)", other.inTime(0), -1);
        check.due("inTime(1): others by 1 STEP", other.inTime(1), 1);
        check.due("inTime(9)", other.inTime(9), 1);
    }
}
