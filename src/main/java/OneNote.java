import java.util.Arrays;

/**
 * One note each: a valley where everyone is born to one note and a chord of three notes says one thing.
 *
 * What each call promises is told in the document DOC.md, by numbers. All that a call needs to work on is made
 * once, with the object, so that no call makes an object or an array.
 */
public final class OneNote {
    public static final int NONE = -1, BAD = -2, NO = -3, FULL = -4;

    private static final int ROOMS = 6;
    private static final int NOTES = 12;
    private static final int ALL_NOTES = (1 << NOTES) - 1;
    private static final int PEOPLE = 7;
    private static final int CHORDS = 8;
    private static final int SPEECH = 6;
    private static final int HOLES = 6;
    private static final int TEXT = 200;
    private static final int IMAGES = 2;

    private static final int MOST_USED = 9;
    private static final int MOST_SLACK = 2;
    private static final int MOST_FOG = 3;
    private static final int MOST_STEPS = 9;
    private static final int FARTHEST_APART = 6;
    private static final int NOTES_OF_A_CHORD = 3;

    private static final int NOT_SO_MANY = -5;
    private static final int BAD_FOR_ROWS = -10;

    private final Valley valley = new Valley();
    /** Another valley to try things in: a text that may be refused, two that may be wed. */
    private final Valley draft = new Valley();
    private final Valley[] images = {new Valley(), new Valley()};
    private int imagesKept;
    private final Text text = new Text();
    private final Fraction fraction = new Fraction();
    private int refusedAsBad;
    private int refusedAsNo;
    private int refusedAsFull;

    private final Choir choir = new Choir();
    private final Errand errand = new Errand();
    private final Fog fogOverChords = new Fog();
    private final Rumour rumour = new Rumour();
    private final Guess guess = new Guess();
    private final Chant chant = new Chant();

    public OneNote() {
    }

    // ---- a valley

    public int door(int a, int b) {
        return told(valley.addDoor(a, b));
    }

    public int hears(int a, int b) {
        return told(valley.addHearing(a, b));
    }

    public int one(int kind, int note, int room) {
        return told(valley.addPerson(kind, note, room));
    }

    public int mates(int a, int b) {
        return told(valley.addMates(a, b));
    }

    public int goes(int person, int room) {
        return told(valley.move(person, room));
    }

    public int chord(int a, int b, int c, int used) {
        return told(valley.addChord(a, b, c, used));
    }

    public int slack(int v) {
        return told(valley.changeSlack(v));
    }

    public int sounds(int person, int set) {
        if (!valley.isMember(person, set)) {
            return told(BAD);
        }
        return Choir.notesOf(valley, person, set);
    }

    public int type(long v, int n) {
        return told(text.append(v, n));
    }

    public int clear() {
        return text.erase();
    }

    public int read() {
        int answer = text.tellTo(draft);
        if (answer >= 0) {
            valley.copyAll(draft);
        }
        return answer;
    }

    // ---- what is said

    public int says(int set, int chord) {
        if (!valley.isSet(set) || !valley.isChord(chord)) {
            return told(BAD);
        }
        return choir.canSay(valley, set, chord) ? 1 : 0;
    }

    public int said(int room) {
        if (!isRoom(room)) {
            return told(BAD);
        }
        return choir.chordsOf(valley, valley.peopleIn(1 << room));
    }

    public int byDoor(int a, int b) {
        if (!isRoom(a) || !isRoom(b)) {
            return told(BAD);
        }
        if (!valley.hasDoor(a, b)) {
            return told(NO);
        }
        return choir.chordsOf(valley, valley.peopleIn(1 << a | 1 << b));
    }

    public int fewest(int set, int chord) {
        if (!valley.isSet(set) || !valley.isChord(chord)) {
            return told(BAD);
        }
        return choir.smallestSet(valley, set, chord);
    }

    public int speak(int chord) {
        return told(valley.addToSpeech(chord));
    }

    public int hush() {
        return valley.endSpeech();
    }

    public int fetch(int what) {
        if (what < 0 || what > 2) {
            return told(BAD);
        }
        if (!errand.seek(valley, choir, MOST_STEPS)) {
            return NONE;
        }
        return what == 0 ? errand.steps : what == 1 ? errand.room : errand.set;
    }

    public int inTime(int t) {
        if (t < 0 || t > MOST_STEPS) {
            return told(BAD);
        }
        return errand.seek(valley, choir, t) ? errand.steps : NONE;
    }

    // ---- fog, news, holes

    public int taken(int a, int b, int fog) {
        if (!valley.isChord(a) || !valley.isChord(b) || a == b || !isFog(fog)) {
            return told(BAD);
        }
        return Fog.confuses(valley.chordNotes[a], valley.chordNotes[b], fog) ? 1 : 0;
    }

    public int drop(int fog) {
        if (!isFog(fog)) {
            return told(BAD);
        }
        return fogOverChords.leastToGo(valley, fog);
    }

    public int news(int from, int to, int i) {
        if (!isRoom(from) || !isRoom(to) || i < NONE) {
            return badForRows();
        }
        rumour.spread(valley, to);
        return i == NONE ? rumour.sentFrom(from) : rumour.roomOfRow(valley, from, i);
    }

    public int hole(int notes) {
        return told(valley.addHole(notes));
    }

    public int whole() {
        return valley.endHoles();
    }

    public int meant(int hole) {
        if (!valley.isHole(hole)) {
            return told(BAD);
        }
        return valley.chordsWith(valley.holes[hole]);
    }

    public int ways() {
        return guess.countRows(valley);
    }

    public int odds(int hole, int chord) {
        if (!valley.isHole(hole) || !valley.isChord(chord)) {
            return told(BAD);
        }
        long all = guess.weighRows(valley, NONE, NONE);
        if (all <= 0) {
            return told(NO);
        }
        fraction.become(guess.weighRows(valley, hole, chord), all);
        return 1;
    }

    // ---- motions, songs

    public int block(int set, int chord) {
        if (!valley.isSet(set) || !valley.isChord(chord)) {
            return told(BAD);
        }
        if (!choir.canSay(valley, set, chord)) {
            return told(NO);
        }
        return choir.blockers(valley, set, chord);
    }

    public int swing(int set, int person, int chord) {
        if (!valley.isMember(person, set) || !valley.isChord(chord)) {
            return told(BAD);
        }
        int others = Integer.bitCount(set) - 1;
        fraction.become(choir.setsSwungBy(valley, set, person, chord), 1L << others);
        return 1;
    }

    public int song(int set, int k, int i) {
        if (!valley.isSet(set) || k < 0 || k > FARTHEST_APART || i < NONE) {
            return badForRows();
        }
        chant.learn(valley, set, k);
        return i == NONE ? chant.orders() : chant.placeInFirst(i);
    }

    public int couple(int set) {
        if (!valley.isSet(set)) {
            return told(BAD);
        }
        return choir.bestCouple(valley, draft, set);
    }

    // ---- what there is

    public long part(int what) {
        if (what < 0 || what > 1) {
            return told(BAD);
        }
        return what == 0 ? fraction.above : fraction.below;
    }

    public int image(int i) {
        if (!isImage(i)) {
            return told(BAD);
        }
        images[i].copyAll(valley);
        imagesKept |= 1 << i;
        return 1;
    }

    public int from(int i) {
        if (!isImage(i)) {
            return told(BAD);
        }
        if ((imagesKept >> i & 1) == 0) {
            return told(NO);
        }
        valley.copyAll(images[i]);
        return 1;
    }

    public int status(int what) {
        switch (what) {
            case 0:
                return refusedAsBad;
            case 1:
                return refusedAsNo;
            case 2:
                return refusedAsFull;
            default:
                refusedAsBad++;
                return -1;
        }
    }

    public int count(int what) {
        if (what < 0 || what > 4) {
            return told(BAD);
        }
        return amount(what);
    }

    public long digest() {
        long h = 677;
        for (int what = 0; what <= 4; what++) {
            h = 31 * h + amount(what);
        }
        h = valley.digestOn(h);
        h = 31 * h + fraction.above;
        return 31 * h + fraction.below;
    }

    // ---- what the calls share

    /** Answers what a call answers, and counts it if it is a refusal. */
    private int told(int answer) {
        if (answer == BAD) {
            refusedAsBad++;
        } else if (answer == NO) {
            refusedAsNo++;
        } else if (answer == FULL) {
            refusedAsFull++;
        }
        return answer;
    }

    /** BAD where small numbers below 0 mean something else. */
    private int badForRows() {
        refusedAsBad++;
        return BAD_FOR_ROWS;
    }

    private int amount(int what) {
        switch (what) {
            case 0:
                return valley.people;
            case 1:
                return valley.chords;
            case 2:
                return valley.speechLength;
            case 3:
                return valley.holeCount;
            default:
                return text.length;
        }
    }

    private static boolean isRoom(int room) {
        return room >= 0 && room < ROOMS;
    }

    private static boolean isFog(int fog) {
        return fog >= 0 && fog <= MOST_FOG;
    }

    private static boolean isImage(int i) {
        return i >= 0 && i < IMAGES;
    }

    /** The ring of notes: sets of notes are bits. */
    private static final class Ring {
        private Ring() {
        }

        static boolean isNote(int note) {
            return note >= 0 && note < NOTES;
        }

        /** Notes as many steps higher (0 .. 12), on the ring. */
        static int raised(int notes, int steps) {
            return (notes << steps | notes >> NOTES - steps) & ALL_NOTES;
        }

        /** Notes that are no more than so many steps (0 .. 6) from one of these. */
        static int near(int notes, int steps) {
            int wide = notes;
            for (int s = 1; s <= steps; s++) {
                wide |= raised(notes, s) | raised(notes, NOTES - s);
            }
            return wide;
        }

        /**
         * What may be filled of a chord, if one more of its notes is filled by somebody who can fill some of
         * them. The notes of a chord that are filled are a number 0 .. 7, what may be filled is a set of such
         * numbers, as bits: so all ways of filling go on at once.
         */
        static int filledByOneMore(int filled, int fillable, int chordNotes) {
            int low = chordNotes & -chordNotes;
            int rest = chordNotes & ~low;
            int middle = rest & -rest;
            int high = rest & ~middle;
            int grown = 0;
            if ((fillable & low) != 0) {
                grown |= (filled & 0x55) << 1;
            }
            if ((fillable & middle) != 0) {
                grown |= (filled & 0x33) << 2;
            }
            if ((fillable & high) != 0) {
                grown |= (filled & 0x0f) << 4;
            }
            return grown;
        }

        static boolean isWholeChord(int filled) {
            return (filled >> 7 & 1) != 0;
        }
    }

    /** All that an image keeps: rooms, people, chords, slack, the speech, holes. Counts no refusals. */
    private static final class Valley {
        static final int LIAR = 1, WED = 2, CHILD = 3, TWIN = 4, MILLER = 5;

        /** For each room the rooms behind its doors, as bits. */
        private final int[] doors = new int[ROOMS];
        /** For each room the rooms that hear it, as bits. */
        private final int[] hearing = new int[ROOMS];
        private final int[] kinds = new int[PEOPLE];
        private final int[] births = new int[PEOPLE];
        private final int[] places = new int[PEOPLE];
        private final int[] spouses = new int[PEOPLE];
        private int people;
        private final int[] chordNotes = new int[CHORDS];
        private final int[] uses = new int[CHORDS];
        private int chords;
        private int looseness;
        private final int[] speech = new int[SPEECH];
        private int speechLength;
        private final int[] holes = new int[HOLES];
        private int holeCount;

        boolean isPerson(int person) {
            return person >= 0 && person < people;
        }

        boolean isSet(int set) {
            return set >= 0 && set < 1 << people;
        }

        boolean isMember(int person, int set) {
            return isSet(set) && isPerson(person) && (set >> person & 1) != 0;
        }

        boolean isChord(int number) {
            return number >= 0 && number < chords;
        }

        boolean isHole(int number) {
            return number >= 0 && number < holeCount;
        }

        boolean hasDoor(int a, int b) {
            return (doors[a] >> b & 1) != 0;
        }

        int addDoor(int a, int b) {
            return join(doors, a, b);
        }

        int addHearing(int a, int b) {
            return join(hearing, a, b);
        }

        private static int join(int[] links, int a, int b) {
            if (!isRoom(a) || !isRoom(b) || a == b) {
                return BAD;
            }
            if ((links[a] >> b & 1) != 0) {
                return NO;
            }
            links[a] |= 1 << b;
            links[b] |= 1 << a;
            return 1;
        }

        int addPerson(int kind, int note, int room) {
            if (kind < 0 || kind > MILLER || !Ring.isNote(note) || !isRoom(room)) {
                return BAD;
            }
            if (people >= PEOPLE) {
                return FULL;
            }
            kinds[people] = kind;
            births[people] = note;
            places[people] = room;
            spouses[people] = NONE;
            people++;
            return people - 1;
        }

        int addMates(int a, int b) {
            if (!isPerson(a) || !isPerson(b) || a == b) {
                return BAD;
            }
            if (spouses[a] != NONE || spouses[b] != NONE) {
                return NO;
            }
            spouses[a] = b;
            spouses[b] = a;
            return 1;
        }

        /** Two of the people become WED and one another's, whoever was theirs has nobody then. */
        void wed(int a, int b) {
            freeSpouseOf(a);
            freeSpouseOf(b);
            kinds[a] = WED;
            kinds[b] = WED;
            spouses[a] = b;
            spouses[b] = a;
        }

        private void freeSpouseOf(int person) {
            int spouse = spouses[person];
            if (isPerson(spouse)) {
                spouses[spouse] = NONE;
            }
        }

        int move(int person, int room) {
            if (!isPerson(person) || !isRoom(room)) {
                return BAD;
            }
            int was = places[person];
            places[person] = room;
            return was;
        }

        int addChord(int a, int b, int c, int used) {
            boolean rising = Ring.isNote(a) && Ring.isNote(b) && Ring.isNote(c) && a < b && b < c;
            if (!rising || used < 1 || used > MOST_USED) {
                return BAD;
            }
            int notes = 1 << a | 1 << b | 1 << c;
            if (hasChordOf(notes)) {
                return BAD;
            }
            if (chords >= CHORDS) {
                return FULL;
            }
            chordNotes[chords] = notes;
            uses[chords] = used;
            chords++;
            return chords - 1;
        }

        private boolean hasChordOf(int notes) {
            for (int i = 0; i < chords; i++) {
                if (chordNotes[i] == notes) {
                    return true;
                }
            }
            return false;
        }

        int changeSlack(int v) {
            if (v < 0 || v > MOST_SLACK) {
                return BAD;
            }
            int was = looseness;
            looseness = v;
            return was;
        }

        int addToSpeech(int chord) {
            if (!isChord(chord)) {
                return BAD;
            }
            if (speechLength >= SPEECH) {
                return FULL;
            }
            speech[speechLength] = chord;
            speechLength++;
            return speechLength;
        }

        int endSpeech() {
            int had = speechLength;
            speechLength = 0;
            return had;
        }

        int addHole(int notes) {
            if (notes < 0 || notes > ALL_NOTES || Integer.bitCount(notes) > NOTES_OF_A_CHORD) {
                return BAD;
            }
            if (holeCount >= HOLES) {
                return FULL;
            }
            holes[holeCount] = notes;
            holeCount++;
            return holeCount - 1;
        }

        int endHoles() {
            int had = holeCount;
            holeCount = 0;
            return had;
        }

        /** Those who are in some rooms (bits), as bits. */
        int peopleIn(int rooms) {
            int set = 0;
            for (int p = 0; p < people; p++) {
                if ((rooms >> places[p] & 1) != 0) {
                    set |= 1 << p;
                }
            }
            return set;
        }

        /** Chords that have all of these notes, as bits. */
        int chordsWith(int notes) {
            int found = 0;
            for (int c = 0; c < chords; c++) {
                if ((notes & ~chordNotes[c]) == 0) {
                    found |= 1 << c;
                }
            }
            return found;
        }

        int chordsOfSpeech() {
            int found = 0;
            for (int i = 0; i < speechLength; i++) {
                found |= 1 << speech[i];
            }
            return found;
        }

        void becomeEmpty() {
            Arrays.fill(doors, 0);
            Arrays.fill(hearing, 0);
            people = 0;
            chords = 0;
            looseness = 0;
            speechLength = 0;
            holeCount = 0;
        }

        void copyAll(Valley other) {
            System.arraycopy(other.doors, 0, doors, 0, ROOMS);
            System.arraycopy(other.hearing, 0, hearing, 0, ROOMS);
            copyPeople(other);
            System.arraycopy(other.chordNotes, 0, chordNotes, 0, CHORDS);
            System.arraycopy(other.uses, 0, uses, 0, CHORDS);
            chords = other.chords;
            looseness = other.looseness;
            System.arraycopy(other.speech, 0, speech, 0, SPEECH);
            speechLength = other.speechLength;
            System.arraycopy(other.holes, 0, holes, 0, HOLES);
            holeCount = other.holeCount;
        }

        void copyPeople(Valley other) {
            System.arraycopy(other.kinds, 0, kinds, 0, PEOPLE);
            System.arraycopy(other.births, 0, births, 0, PEOPLE);
            System.arraycopy(other.places, 0, places, 0, PEOPLE);
            System.arraycopy(other.spouses, 0, spouses, 0, PEOPLE);
            people = other.people;
        }

        /** The digest, carried on over all that is kept here. */
        long digestOn(long start) {
            long h = digestOfRooms(start);
            for (int p = 0; p < people; p++) {
                h = 31 * h + kinds[p];
                h = 31 * h + births[p];
                h = 31 * h + places[p];
                h = 31 * h + spouses[p];
            }
            for (int c = 0; c < chords; c++) {
                h = 31 * h + chordNotes[c];
                h = 31 * h + uses[c];
            }
            h = 31 * h + looseness;
            for (int i = 0; i < speechLength; i++) {
                h = 31 * h + speech[i];
            }
            for (int i = 0; i < holeCount; i++) {
                h = 31 * h + holes[i];
            }
            return h;
        }

        private long digestOfRooms(long start) {
            long h = start;
            for (int a = 0; a < ROOMS; a++) {
                for (int b = 0; b < a; b++) {
                    h = 31 * h + (doors[a] >> b & 1);
                    h = 31 * h + (hearing[a] >> b & 1);
                }
            }
            return h;
        }
    }

    /** Those who sound together: what a set of people says, and what hangs on one of them. */
    private static final class Choir {
        /** For each of the people notes that he can fill, none if he is not of the set. */
        private final int[] fillable = new int[PEOPLE];
        /** How many notes of a chord each can fill. */
        private final int[] mostFilled = new int[PEOPLE];

        /** Notes that one of a set sounds in it, as bits. */
        static int notesOf(Valley valley, int person, int set) {
            int note = 1 << valley.births[person];
            switch (valley.kinds[person]) {
                case Valley.LIAR:
                    return set == 1 << person ? note : Ring.raised(note, 1);
                case Valley.WED:
                    return isMateIn(valley.spouses[person], set) ? note | Ring.raised(note, 7) : note;
                case Valley.CHILD:
                case Valley.TWIN:
                    return note | Ring.raised(note, 1);
                case Valley.MILLER:
                    return note | Ring.raised(note, 1) | Ring.raised(note, 6);
                default:
                    return note;
            }
        }

        private static boolean isMateIn(int mate, int set) {
            return mate >= 0 && mate < PEOPLE && (set >> mate & 1) != 0;
        }

        private void gather(Valley valley, int set) {
            for (int p = 0; p < PEOPLE; p++) {
                fillable[p] = 0;
                if (valley.isMember(p, set)) {
                    fillable[p] = Ring.near(notesOf(valley, p, set), valley.looseness);
                    mostFilled[p] = valley.kinds[p] >= Valley.TWIN ? 2 : 1;
                }
            }
        }

        private boolean fillsAll(int chordNotes) {
            int filled = 1;
            for (int p = 0; p < PEOPLE; p++) {
                if ((fillable[p] & chordNotes) != 0) {
                    for (int times = 0; times < mostFilled[p]; times++) {
                        filled |= Ring.filledByOneMore(filled, fillable[p], chordNotes);
                    }
                }
            }
            return Ring.isWholeChord(filled);
        }

        boolean canSay(Valley valley, int set, int chord) {
            gather(valley, set);
            return valley.isChord(chord) && fillsAll(valley.chordNotes[chord]);
        }

        boolean canSayAll(Valley valley, int set, int wanted) {
            gather(valley, set);
            for (int c = 0; c < valley.chords; c++) {
                if ((wanted >> c & 1) != 0 && !fillsAll(valley.chordNotes[c])) {
                    return false;
                }
            }
            return true;
        }

        /** Chords that a set says, as bits. */
        int chordsOf(Valley valley, int set) {
            gather(valley, set);
            int found = 0;
            for (int c = 0; c < valley.chords; c++) {
                if (fillsAll(valley.chordNotes[c])) {
                    found |= 1 << c;
                }
            }
            return found;
        }

        /** More people may say less (a liar alone is none), so that all sets within the set are tried. */
        int smallestSet(Valley valley, int set, int chord) {
            int best = NONE;
            int size = PEOPLE + 1;
            for (int s = 0; s <= set; s++) {
                boolean fewer = (s & ~set) == 0 && Integer.bitCount(s) < size;
                if (fewer && canSay(valley, s, chord)) {
                    best = s;
                    size = Integer.bitCount(s);
                }
            }
            return best;
        }

        int blockers(Valley valley, int set, int chord) {
            int found = 0;
            for (int p = 0; p < PEOPLE; p++) {
                int one = set & 1 << p;
                if (one != 0 && !canSay(valley, set & ~one, chord)) {
                    found |= one;
                }
            }
            return found;
        }

        /** How many sets of the others do not say the chord, and do with the person. */
        int setsSwungBy(Valley valley, int set, int person, int chord) {
            int one = 1 << person;
            int others = set & ~one;
            int swung = 0;
            for (int s = 0; s <= others; s++) {
                boolean within = (s & ~others) == 0;
                if (within && !canSay(valley, s, chord) && canSay(valley, s | one, chord)) {
                    swung++;
                }
            }
            return swung;
        }

        int bestCouple(Valley valley, Valley draft, int set) {
            draft.copyAll(valley);
            int best = NONE;
            int most = NONE;
            for (int a = 0; a < PEOPLE; a++) {
                for (int b = a + 1; b < PEOPLE; b++) {
                    boolean both = valley.isMember(a, set) && valley.isMember(b, set);
                    if (!both || valley.spouses[a] == b) {
                        continue;
                    }
                    draft.copyPeople(valley);
                    draft.wed(a, b);
                    int many = Integer.bitCount(chordsOf(draft, set));
                    if (many > most) {
                        most = many;
                        best = 10 * a + b;
                    }
                }
            }
            return best;
        }
    }

    /** Whom to fetch, and where to, so that the speech can be held. */
    private static final class Errand {
        /** Steps by doors from each room to each room, NONE where there is no way. */
        private final int[] far = new int[ROOMS * ROOMS];
        private int steps;
        private int room;
        private int set;

        /** Whether there are a room and a set that hold the speech; the best stand in the fields then. */
        boolean seek(Valley valley, Choir choir, int mostSteps) {
            measure(valley);
            steps = NONE;
            int wanted = valley.chordsOfSpeech();
            int sets = 1 << valley.people;
            for (int s = 0; s < sets; s++) {
                int bestRoom = nearestRoom(valley, s, mostSteps);
                if (bestRoom == NONE) {
                    continue;
                }
                int sum = stepsTo(valley, bestRoom, s, mostSteps);
                if (isBetter(sum, bestRoom, s) && choir.canSayAll(valley, s, wanted)) {
                    steps = sum;
                    room = bestRoom;
                    set = s;
                }
            }
            return steps != NONE;
        }

        private void measure(Valley valley) {
            for (int from = 0; from < ROOMS; from++) {
                for (int to = 0; to < ROOMS; to++) {
                    far[from * ROOMS + to] = NONE;
                }
                int reached = 1 << from;
                for (int distance = 0; distance < ROOMS; distance++) {
                    reached = spreadOnce(valley, from, reached, distance);
                }
            }
        }

        private int spreadOnce(Valley valley, int from, int reached, int distance) {
            int next = reached;
            for (int to = 0; to < ROOMS; to++) {
                int place = from * ROOMS + to;
                if ((reached >> to & 1) != 0 && far[place] == NONE) {
                    far[place] = distance;
                    next |= valley.doors[to];
                }
            }
            return next;
        }

        /** The room to which a set goes by the fewest steps, the least of like ones. */
        private int nearestRoom(Valley valley, int s, int mostSteps) {
            int best = NONE;
            int fewestSteps = 0;
            for (int r = 0; r < ROOMS; r++) {
                int sum = stepsTo(valley, r, s, mostSteps);
                if (sum != NONE && (best == NONE || sum < fewestSteps)) {
                    best = r;
                    fewestSteps = sum;
                }
            }
            return best;
        }

        private int stepsTo(Valley valley, int target, int s, int mostSteps) {
            int sum = 0;
            for (int p = 0; p < valley.people; p++) {
                if ((s >> p & 1) != 0) {
                    int own = far[valley.places[p] * ROOMS + target];
                    if (own == NONE || own > mostSteps) {
                        return NONE;
                    }
                    sum += own;
                }
            }
            return sum;
        }

        /** Sets come by their bits, so that of two like ones the one that came first stays. */
        private boolean isBetter(int sum, int r, int s) {
            if (steps == NONE || sum != steps) {
                return steps == NONE || sum < steps;
            }
            if (r != room) {
                return r < room;
            }
            return Integer.bitCount(s) < Integer.bitCount(set);
        }
    }

    /** Chords that are taken for one another. */
    private static final class Fog {
        /** For each chord those that it is taken for, as bits. */
        private final int[] rivals = new int[CHORDS];

        static boolean confuses(int oneChord, int otherChord, int fog) {
            int paired = 1;
            for (int n = 0; n < NOTES; n++) {
                int note = oneChord & 1 << n;
                if (note != 0) {
                    paired = Ring.filledByOneMore(paired, Ring.near(note, fog), otherChord);
                }
            }
            return Ring.isWholeChord(paired);
        }

        /** The fewest chords without which no two are taken for one another, as bits. */
        int leastToGo(Valley valley, int fog) {
            findRivals(valley, fog);
            int all = (1 << valley.chords) - 1;
            int best = all;
            for (int gone = 0; gone <= all; gone++) {
                if (Integer.bitCount(gone) < Integer.bitCount(best) && isClear(all & ~gone)) {
                    best = gone;
                }
            }
            return best;
        }

        private void findRivals(Valley valley, int fog) {
            for (int a = 0; a < valley.chords; a++) {
                rivals[a] = 0;
                for (int b = 0; b < valley.chords; b++) {
                    if (a != b && confuses(valley.chordNotes[a], valley.chordNotes[b], fog)) {
                        rivals[a] |= 1 << b;
                    }
                }
            }
        }

        private boolean isClear(int left) {
            for (int c = 0; c < CHORDS; c++) {
                if ((left >> c & 1) != 0 && (rivals[c] & left) != 0) {
                    return false;
                }
            }
            return true;
        }
    }

    /** News on its way to a room. */
    private static final class Rumour {
        /** A room where nobody is costs more than all rooms of a row together. */
        private static final int SENDING = 16;
        private static final int NO_WAY = 1000;

        /** For each room what it costs to go on from there: rooms to come, and SENDING for each empty one. */
        private final int[] costs = new int[ROOMS];
        private int peopled;
        private int goal;

        void spread(Valley valley, int to) {
            goal = to;
            peopled = 0;
            for (int p = 0; p < valley.people; p++) {
                peopled |= 1 << valley.places[p];
            }
            for (int r = 0; r < ROOMS; r++) {
                costs[r] = r == goal ? 0 : NO_WAY;
            }
            for (int round = 0; round < ROOMS; round++) {
                for (int r = 0; r < ROOMS; r++) {
                    int next = nextRoom(valley, r);
                    if (next != NONE) {
                        costs[r] = Math.min(costs[r], costBy(next));
                    }
                }
            }
        }

        private int costBy(int next) {
            boolean free = next == goal || (peopled >> next & 1) != 0;
            return costs[next] + (free ? 1 : 1 + SENDING);
        }

        /** The cheapest room that hears this one, the least of like ones; NONE, if none leads on. */
        private int nextRoom(Valley valley, int r) {
            int best = NONE;
            for (int n = 0; n < ROOMS; n++) {
                boolean leadsOn = (valley.hearing[r] >> n & 1) != 0 && costs[n] < NO_WAY;
                if (leadsOn && (best == NONE || costBy(n) < costBy(best))) {
                    best = n;
                }
            }
            return best;
        }

        int sentFrom(int from) {
            return costs[from] >= NO_WAY ? NONE : costs[from] / SENDING;
        }

        int roomOfRow(Valley valley, int from, int i) {
            if (costs[from] >= NO_WAY) {
                return NONE;
            }
            if (i > costs[from] % SENDING) {
                return NOT_SO_MANY;
            }
            int at = from;
            for (int step = 0; step < i && at != NONE; step++) {
                at = nextRoom(valley, at);
            }
            return at;
        }
    }

    /** What a speech with holes may have been. */
    private static final class Guess {
        /** For each chord the weight of all rows so far that end in it. */
        private final long[] endingIn = new long[CHORDS];

        int countRows(Valley valley) {
            return (int) sumRows(valley, false, NONE, NONE);
        }

        /** The weight of all rows, or (hole not NONE) of those that have the chord at that hole. */
        long weighRows(Valley valley, int hole, int chord) {
            return sumRows(valley, true, hole, chord);
        }

        private long sumRows(Valley valley, boolean weighed, int hole, int chord) {
            Arrays.fill(endingIn, 0);
            long sum = 1;
            for (int h = 0; h < valley.holeCount; h++) {
                int fitting = valley.chordsWith(valley.holes[h]);
                if (h == hole) {
                    fitting &= 1 << chord;
                }
                long before = sum;
                sum = 0;
                for (int c = 0; c < valley.chords; c++) {
                    long unlike = (fitting >> c & 1) != 0 ? before - endingIn[c] : 0;
                    endingIn[c] = weighed ? unlike * valley.uses[c] : unlike;
                    sum += endingIn[c];
                }
            }
            return sum;
        }
    }

    /** Songs in which all of a set sound their notes once. */
    private static final class Chant {
        /** For each set and each of it how many orders of the set begin with him. */
        private final int[] beginning = new int[(1 << PEOPLE) * PEOPLE];
        /** For each of the people those who may sound next to him, as bits. */
        private final int[] neighbours = new int[PEOPLE];
        private int singers;

        void learn(Valley valley, int set, int apart) {
            singers = set;
            findNeighbours(valley, apart);
            for (int s = 1; s <= set; s++) {
                if ((s & ~set) == 0) {
                    for (int p = 0; p < PEOPLE; p++) {
                        beginning[s * PEOPLE + p] = ordersFrom(s, p);
                    }
                }
            }
        }

        private void findNeighbours(Valley valley, int apart) {
            for (int p = 0; p < PEOPLE; p++) {
                neighbours[p] = 0;
                for (int q = 0; p < valley.people && q < valley.people; q++) {
                    int near = Ring.near(1 << valley.births[p], apart);
                    if ((near >> valley.births[q] & 1) != 0) {
                        neighbours[p] |= 1 << q;
                    }
                }
            }
        }

        /** Lesser sets are known already. */
        private int ordersFrom(int s, int p) {
            if ((s >> p & 1) == 0) {
                return 0;
            }
            int rest = s & ~(1 << p);
            return rest == 0 ? 1 : ordersAmong(rest, rest & neighbours[p]);
        }

        /** How many orders of a set begin with one of some of it. */
        private int ordersAmong(int s, int first) {
            int sum = 0;
            for (int p = 0; p < PEOPLE; p++) {
                if ((first >> p & 1) != 0) {
                    sum += beginning[s * PEOPLE + p];
                }
            }
            return sum;
        }

        int orders() {
            return singers == 0 ? 1 : ordersAmong(singers, singers);
        }

        int placeInFirst(int i) {
            if (i >= Integer.bitCount(singers) || orders() == 0) {
                return NOT_SO_MANY;
            }
            int left = singers;
            int open = singers;
            int last = NONE;
            for (int place = 0; place <= i; place++) {
                last = leastBeginning(left, open);
                if (last == NONE) {
                    return NOT_SO_MANY;
                }
                left &= ~(1 << last);
                open = left & neighbours[last];
            }
            return last;
        }

        private int leastBeginning(int s, int open) {
            for (int p = 0; p < PEOPLE; p++) {
                if ((open >> p & 1) != 0 && beginning[s * PEOPLE + p] > 0) {
                    return p;
                }
            }
            return NONE;
        }
    }

    /** The text, and the valley that it tells. */
    private static final class Text {
        private static final int END = 0, WORD = 1, NUMBER = 2, STOP = 3, WRONG = 4;

        private static final int DOOR = 0, HEARS = 1, ONE = 2, MATES = 3, CHORD = 4, ITEMS = 6;
        /** How many numbers follow the word of an item. */
        private static final int[] NUMBERS_OF = {2, 2, 3, 2, 4, 1};

        private static final int FAULT_AT = -10;
        private static final int REFUSED_AT = -1000;

        private final byte[] bytes = new byte[TEXT];
        private int length;
        /** Where the next token is looked for. */
        private int at;
        private int token;
        private int tokenStart;
        /** The item that a WORD begins, or what a NUMBER counts. */
        private int tokenValue;
        private int item;
        private final int[] numbers = new int[4];

        int append(long v, int n) {
            if (n < 1 || n > 8) {
                return BAD;
            }
            if (length + n > TEXT) {
                return FULL;
            }
            for (int i = n - 1; i >= 0; i--) {
                bytes[length] = (byte) (v >> 8 * i);
                length++;
            }
            return length;
        }

        int erase() {
            int had = length;
            length = 0;
            return had;
        }

        /** Tells all items to an emptied valley: how many, or what is at fault or refused. */
        int tellTo(Valley valley) {
            valley.becomeEmpty();
            at = 0;
            int items = 0;
            int refused = NONE;
            readToken();
            while (token != END && items <= TEXT) {
                if (!readItem()) {
                    return FAULT_AT - tokenStart;
                }
                if (refused == NONE && tellItem(valley) < 0) {
                    refused = items;
                }
                items++;
                readToken();
            }
            return refused == NONE ? items : REFUSED_AT - refused;
        }

        /** Whether an item begins with the token that was read; if not, the token is the one at fault. */
        private boolean readItem() {
            if (token != WORD) {
                return false;
            }
            item = tokenValue;
            for (int i = 0; i < NUMBERS_OF[item]; i++) {
                readToken();
                if (token != NUMBER) {
                    return false;
                }
                numbers[i] = tokenValue;
            }
            readToken();
            return token == STOP;
        }

        private int tellItem(Valley valley) {
            switch (item) {
                case DOOR:
                    return valley.addDoor(numbers[0], numbers[1]);
                case HEARS:
                    return valley.addHearing(numbers[0], numbers[1]);
                case ONE:
                    return valley.addPerson(numbers[0], numbers[1], numbers[2]);
                case MATES:
                    return valley.addMates(numbers[0], numbers[1]);
                case CHORD:
                    return valley.addChord(numbers[0], numbers[1], numbers[2], numbers[3]);
                default:
                    return valley.changeSlack(numbers[0]);
            }
        }

        private void readToken() {
            while (at < length && bytes[at] == ' ') {
                at++;
            }
            tokenStart = at;
            if (at >= length) {
                token = END;
            } else if (isLetter(bytes[at])) {
                readWord();
            } else if (isFigure(bytes[at])) {
                readNumber();
            } else {
                token = bytes[at] == ';' ? STOP : WRONG;
                at++;
            }
        }

        private void readWord() {
            while (at < length && isLetter(bytes[at])) {
                at++;
            }
            token = WRONG;
            for (int i = 0; i < ITEMS; i++) {
                if (isTokenWord(wordOf(i))) {
                    token = WORD;
                    tokenValue = i;
                }
            }
        }

        private void readNumber() {
            tokenValue = 0;
            while (at < length && isFigure(bytes[at])) {
                tokenValue = 10 * tokenValue + bytes[at] - '0';
                at++;
            }
            token = at - tokenStart <= 2 ? NUMBER : WRONG;
        }

        private static boolean isLetter(int sign) {
            return sign >= 'a' && sign <= 'z';
        }

        private static boolean isFigure(int sign) {
            return sign >= '0' && sign <= '9';
        }

        private boolean isTokenWord(String word) {
            if (at - tokenStart != word.length()) {
                return false;
            }
            for (int i = 0; i < word.length(); i++) {
                if (bytes[tokenStart + i] != word.charAt(i)) {
                    return false;
                }
            }
            return true;
        }

        private static String wordOf(int item) {
            switch (item) {
                case DOOR:
                    return "door";
                case HEARS:
                    return "hears";
                case ONE:
                    return "one";
                case MATES:
                    return "mates";
                case CHORD:
                    return "chord";
                default:
                    return "slack";
            }
        }
    }

    /** A number above, a number below, in lowest terms. */
    private static final class Fraction {
        /** Far more than the greatest common divisor of two longs takes. */
        private static final int MOST_DIVISIONS = 1000;

        private long above = 0;
        private long below = 1;

        void become(long newAbove, long newBelow) {
            long divisor = commonDivisor(newAbove, newBelow);
            if (divisor > 0) {
                above = newAbove / divisor;
                below = newBelow / divisor;
            }
        }

        private static long commonDivisor(long a, long b) {
            long x = a;
            long y = b;
            for (int i = 0; i < MOST_DIVISIONS && y != 0; i++) {
                long rest = x % y;
                x = y;
                y = rest;
            }
            return x;
        }
    }
}
