/** The boundaries that promises 1 to 5 name: a new object, letter, blank, fault, take. */
public final class EdgesOfPageTest {
    private static final Check CHECK = new Check("EdgesOfPageTest");
    private static final Edges EDGES = new Edges(CHECK);
    private static final Edges.Scene EMPTY = Edges.scene(0, "");
    private static final Edges.Scene[] WITH_ROOM =
            {EMPTY, Edges.scene(0, "12/"), Edges.scene(2, Edges.NINE), Edges.scene(4, Edges.SIXTY.substring(1))};

    public static void main(String[] args) {
        newObjectHasNoHeads();
        newObjectSharesNothing();
        codesOfLetters();
        sixtyLetters();
        wrongCodeAheadOfFullPage();
        roomOnAPageThatWasFull();
        blankOfEveryLength();
        blankLeavesHeads();
        faultOfNoLetters();
        faultOfEverySign();
        faultWhereARowEnds();
        faultOfTheSidesThatAreLeft();
        faultBehindAWholeText();
        faultIsTheFirst();
        faultOfAllShortTexts();
        faultOfOneWrongSign();
        faultChangesNothing();
        textsOfEverySide();
        textsOfOtherSides();
        textsTooShortOrTooLong();
        everyFigure();
        fourHeads();
        noTextAheadOfFull();
        takeEmptiesThePage();
        CHECK.end();
    }

    // ---- 1: No HEADS.

    private static void newObjectHasNoHeads() {
        CanDepths x = new CanDepths();
        CHECK.dueCounts("of a new object", x, 0, 0, 0, 0, 0, 0);
        for (int head = -1; head <= 4; head++) {
            CHECK.due("head of a new object", x.head(head, 0), CanDepths.UNKNOWN);
            CHECK.due("depth of a new object", x.depth(head, 0, 0), CanDepths.UNKNOWN);
            CHECK.due("ground of a new object", x.ground(head, 0, 2, 2, 0, 0), CanDepths.UNKNOWN);
            CHECK.due("tile of a new object", x.tile(head, 0, 2, 2, 0), CanDepths.UNKNOWN);
            CHECK.due("byTurns of a new object", x.byTurns(head, head, 2, 2, 0), CanDepths.UNKNOWN);
            CHECK.due("best of a new object", x.best(head, 0, 0), CanDepths.UNKNOWN);
            CHECK.due("field of a new object", x.field(head, 2, 2, 2, 2, 0, 0), CanDepths.UNKNOWN);
            CHECK.due("turn of a new object", x.turn(head, 0, false), CanDepths.UNKNOWN);
            CHECK.due("bend of a new object", x.bend(head, 0, 0), CanDepths.UNKNOWN);
            CHECK.due("drop of a new object", x.drop(head), CanDepths.UNKNOWN);
        }
        EDGES.dueAlike("of a new object behind calls on no head", x, new CanDepths());
        CHECK.due("the first head's number", Check.takeText(x, Edges.NINE), 0);
    }

    private static void newObjectSharesNothing() {
        CanDepths early = new CanDepths();
        CanDepths full = Edges.scene(4, Edges.SIXTY).make();
        full.drop(0);
        full.turn(0, 1, false);
        EDGES.dueAlike("of a new object beside a full one", early, new CanDepths());
        CHECK.due("the full one's heads", full.count(0), 4);
        CHECK.due("the full one's letters", full.count(1), 60);
    }

    // ---- 2: OUTSIDE: code (32 to 126); FULL: there are 60.

    private static void codesOfLetters() {
        EDGES.dueRange("letter", WITH_ROOM, 32, 126, CanDepths::letter);
        for (int code = -300; code <= 700; code++) {
            int want = code >= 32 && code <= 126 ? 1 : CanDepths.OUTSIDE;
            CHECK.due("letter(" + code + ")", new CanDepths().letter(code), want);
        }
    }

    private static void sixtyLetters() {
        for (int heads = 0; heads <= 4; heads++) {
            CanDepths x = Edges.scene(heads, "").make();
            for (int have = 1; have <= 60; have++) {
                CHECK.due("letter " + have, x.letter(have % 2 == 0 ? 32 : 126), have);
            }
            CHECK.due("letter 61", x.letter(48), CanDepths.FULL);
            CHECK.due("letter 61 again", x.letter(32), CanDepths.FULL);
            CHECK.due("letters of a full page", x.count(1), 60);
            Edges.Scene full = Edges.scene(heads, Edges.SIXTY);
            for (int code : new int[] {32, 47, 48, 57, 97, 122, 126}) {
                EDGES.dueRefused("letter(" + code + ") as the 61st", full, page -> page.letter(code), CanDepths.FULL);
            }
        }
    }

    private static void wrongCodeAheadOfFullPage() {
        Edges.Scene[] full = {Edges.scene(0, Edges.SIXTY), Edges.scene(3, Edges.SIXTY), Edges.scene(4, Edges.SIXTY)};
        EDGES.dueOutside("letter as the 61st", full, 32, 126, CanDepths::letter);
    }

    private static void roomOnAPageThatWasFull() {
        CanDepths x = Edges.scene(0, Edges.SIXTY).make();
        x.letter(48);
        CHECK.due("blank() of a full page", x.blank(), 60);
        for (int have = 1; have <= 60; have++) {
            CHECK.due("letter " + have + " on a page that was full", x.letter(48), have);
        }
        CHECK.due("letter 61 on a page that was full", x.letter(48), CanDepths.FULL);
    }

    // ---- 3: THE PAGE is empty: how many letters it had.

    private static void blankOfEveryLength() {
        for (int letters = 0; letters <= 61; letters++) {
            CanDepths x = new CanDepths();
            for (int i = 0; i < letters; i++) {
                x.letter(32 + i);
            }
            CHECK.due("blank() of " + letters, x.blank(), Math.min(letters, 60));
            CHECK.due("count(1) behind blank()", x.count(1), 0);
            CHECK.due("blank() again", x.blank(), 0);
            EDGES.dueAlike("behind blank()", x, new CanDepths());
        }
    }

    private static void blankLeavesHeads() {
        for (String letters : new String[] {"", "1", Edges.NINE, Edges.SIXTY}) {
            CanDepths x = Edges.scene(4, letters).make();
            CHECK.due("blank() with 4 heads", x.blank(), letters.length());
            EDGES.dueAlike("behind blank() with 4 heads", x, Edges.scene(4, "").make());
        }
    }

    // ---- 4: the first letter with which, and those ahead of it, no HEAD begins; how many it has, if there is none.

    private static int faultOf(String text) {
        CanDepths x = new CanDepths();
        Check.write(x, text);
        return x.fault();
    }

    private static void dueFault(String text, int want) {
        CHECK.due("fault() of " + text, faultOf(text), want);
    }

    private static void faultOfNoLetters() {
        dueFault("", 0);
        CHECK.due("fault() behind take()", Check.with(Edges.NINE).fault(), 0);
        CanDepths x = Edges.scene(0, "12A").make();
        x.blank();
        CHECK.due("fault() behind blank()", x.fault(), 0);
    }

    private static boolean isFigure(int code) {
        return "0123456789abcdefghijklmnopqrstuvwxyz".indexOf(code) >= 0;
    }

    private static void faultOfEverySign() {
        for (int code = 32; code <= 126; code++) {
            String sign = String.valueOf((char) code);
            boolean slash = code == '/';
            dueFault(sign, isFigure(code) ? 1 : 0);
            dueFault("12" + sign, isFigure(code) ? 3 : 2);
            dueFault("123" + sign, isFigure(code) || slash ? 4 : 3);
            dueFault("1234" + sign, isFigure(code) ? 5 : 4);
            dueFault("12345" + sign, isFigure(code) || slash ? 6 : 5);
            dueFault("123456" + sign, isFigure(code) ? 7 : 6);
            dueFault("1234567" + sign, slash ? 8 : 7);
            dueFault("123/" + sign, isFigure(code) ? 5 : 4);
            dueFault("123/456" + sign, slash ? 8 : 7);
            dueFault("123/456/789" + sign, 11);
        }
    }

    private static void faultWhereARowEnds() {
        dueFault("123/45/", 6);
        dueFault("123/4567", 7);
        dueFault("123/456//", 8);
        dueFault("12345/1234/", 10);
        dueFault("12345/123456", 11);
        dueFault("12345/12345//", 12);
        dueFault("1234567/123456/", 14);
        dueFault("1234567/12345678", 15);
        dueFault("1234567/1234567//", 16);
    }

    /** (of any SIDE that is left to it) */
    private static void faultOfTheSidesThatAreLeft() {
        dueFault("1/", 1);
        dueFault("12/", 2);
        dueFault("123/", 4);
        dueFault("1234/", 4);
        dueFault("12345/", 6);
        dueFault("123456/", 6);
        dueFault("1234567/", 8);
        dueFault("12345678", 7);
        // A row of 3 leaves SIDE 3 alone, one of 5 leaves 5 alone, one of 7 leaves 7.
        dueFault("123/45678", 7);
        dueFault("12345/678/", 9);
        dueFault("1234567/890/", 11);
        dueFault("1234567/89012/", 13);
    }

    private static void faultBehindAWholeText() {
        for (String text : new String[] {Edges.FULL_3, Edges.FULL_5, Edges.FULL_7}) {
            dueFault(text.substring(0, text.length() - 1), text.length() - 1);
            dueFault(text, text.length());
            dueFault(text + "/", text.length());
            dueFault(text + "0", text.length());
            dueFault(text + "0000000".substring(0, 60 - Math.max(53, text.length())), text.length());
        }
    }

    private static void faultIsTheFirst() {
        dueFault("A123/456", 0);
        dueFault("1A3/4B6", 1);
        dueFault("1A3/456/789", 1);
        dueFault("12//456/789", 2);
        dueFault("123/456/78", 10);
        dueFault("123/456/7A", 9);
        dueFault(Edges.SIXTY, 11);
    }

    /** Every text of figures and "/" as long as a HEAD of SIDE 3 and one longer, by the document's words. */
    private static void faultOfAllShortTexts() {
        for (int length = 1; length <= 12; length++) {
            for (int bits = 0; bits < 1 << length; bits++) {
                StringBuilder text = new StringBuilder();
                for (int i = 0; i < length; i++) {
                    text.append((bits >> i & 1) != 0 ? '/' : '7');
                }
                dueFaultOfModel(text.toString());
            }
        }
    }

    private static void dueFaultOfModel(String text) {
        Model model = new Model();
        for (char letter : text.toCharArray()) {
            model.letter(letter);
        }
        dueFault(text, model.fault());
    }

    private static void faultOfOneWrongSign() {
        for (String text : new String[] {Edges.FULL_3, Edges.FULL_5, Edges.FULL_7}) {
            for (int place = 0; place < text.length(); place++) {
                String behind = text.substring(place + 1);
                dueFault(text.substring(0, place) + "A" + behind, place);
                dueFaultOfModel(text.substring(0, place) + (text.charAt(place) == '/' ? "0" : "/") + behind);
            }
        }
    }

    private static void faultChangesNothing() {
        for (String letters : new String[] {"", "12", "12A", "1234/", Edges.NINE, Edges.NINE + "/", Edges.SIXTY}) {
            for (int heads = 0; heads <= 4; heads += 2) {
                CanDepths x = Edges.scene(heads, letters).make();
                x.fault();
                EDGES.dueAlike("behind fault() of " + letters, x, Edges.scene(heads, letters).make());
            }
        }
    }

    // ---- 5: STATE: it is none; FULL: there are 4; THE PAGE is empty then.

    private static void textsOfEverySide() {
        String[] texts = {Edges.NINE, Check.SKEW_5, Check.SKEW_7, Edges.FULL_3, Edges.FULL_5, Edges.FULL_7,
            Check.DRY_3, Edges.DRY_5, Edges.DRY_7};
        for (String text : texts) {
            CanDepths x = new CanDepths();
            CHECK.due("take() of " + text, Check.takeText(x, text), 0);
            CHECK.dueText(x, 0, text);
        }
    }

    private static void dueNoText(String letters) {
        for (int heads : new int[] {0, 3, 4}) {
            String call = "take() of " + letters + " with " + heads + " heads";
            EDGES.dueRefused(call, Edges.scene(heads, letters), CanDepths::take, CanDepths.STATE);
        }
    }

    private static String square(int rows, int columns) {
        return ("1".repeat(columns) + "/").repeat(rows).substring(0, rows * (columns + 1) - 1);
    }

    private static void textsOfOtherSides() {
        dueNoText(square(1, 1));
        dueNoText(square(2, 2));
        dueNoText(square(4, 4));
        dueNoText(square(6, 6));
        dueNoText(square(5, 9));
        for (int side = 3; side <= 7; side += 2) {
            dueNoText(square(side - 1, side));
            dueNoText(square(side + 1, side).substring(0, Math.min(60, (side + 1) * (side + 1) - 1)));
            dueNoText(square(side, side - 1));
            dueNoText(square(side, side + 1).substring(0, Math.min(60, side * (side + 2) - 1)));
        }
        dueNoText(square(3, 5));
        dueNoText(square(5, 3));
        dueNoText(square(7, 5));
        dueNoText(square(5, 7));
    }

    private static void textsTooShortOrTooLong() {
        dueNoText("");
        for (String text : new String[] {Edges.NINE, Check.SKEW_5, Check.SKEW_7}) {
            dueNoText(text.substring(1));
            dueNoText(text.substring(0, text.length() - 1));
            dueNoText(text.substring(0, text.length() - 1) + "/");
            dueNoText(text.substring(0, text.length() - 1) + "Z");
            dueNoText("A" + text.substring(1));
            dueNoText(text + "0");
            dueNoText(text + "/");
            dueNoText(text + " ");
            dueNoText(" " + text);
            dueNoText(text.replace('/', '0'));
            dueNoText(text.replace('/', '.'));
        }
        dueNoText(Edges.SIXTY);
    }

    /** figures 0 to 9 for DEPTHS 0 to 9, "a" to "z" for 10 to 35 */
    private static void everyFigure() {
        for (int code = 32; code <= 126; code++) {
            CanDepths x = new CanDepths();
            int number = Check.takeText(x, "000/0" + (char) code + "0/000");
            if (!isFigure(code)) {
                CHECK.due("take() with the sign " + code, number, CanDepths.STATE);
                continue;
            }
            int want = code <= 57 ? code - 48 : code - 97 + 10;
            CHECK.due("take() with the sign " + code, number, 0);
            CHECK.due("depth of the sign " + code, x.depth(0, 0, 0), want);
            CHECK.due("thrown of the sign " + code, x.head(0, 1), want);
        }
    }

    private static void fourHeads() {
        CanDepths x = new CanDepths();
        for (int head = 0; head < 4; head++) {
            CHECK.due("take() of head " + head, Check.takeText(x, Edges.NINE), head);
        }
        CHECK.due("take() of a 5th head", Check.takeText(x, Edges.NINE), CanDepths.FULL);
        for (String text : new String[] {Edges.NINE, Check.SKEW_5, Check.SKEW_7}) {
            EDGES.dueRefused("take() as the 5th", Edges.scene(4, text), CanDepths::take, CanDepths.FULL);
        }
        CHECK.due("drop(2)", x.drop(2), 3);
        CHECK.due("take() of what was refused", x.take(), 3);
        CHECK.due("take() as the 5th again", Check.takeText(x, Edges.NINE), CanDepths.FULL);
        CHECK.due("count(2)", x.count(2), 5);
    }

    private static void noTextAheadOfFull() {
        for (String letters : new String[] {"", "1", "123/456/78", "123/456/789/", Edges.SIXTY}) {
            EDGES.dueRefused("take() of " + letters, Edges.scene(4, letters), CanDepths::take, CanDepths.STATE);
        }
    }

    private static void takeEmptiesThePage() {
        CanDepths x = new CanDepths();
        Check.write(x, Check.SKEW_7);
        x.take();
        CHECK.due("count(1) behind take()", x.count(1), 0);
        CHECK.due("take() of an empty page", x.take(), CanDepths.STATE);
        CHECK.due("blank() behind take()", x.blank(), 0);
        for (int have = 1; have <= 60; have++) {
            CHECK.due("letter " + have + " behind take()", x.letter(49), have);
        }
        CHECK.due("letter 61 behind take()", x.letter(49), CanDepths.FULL);
    }
}
