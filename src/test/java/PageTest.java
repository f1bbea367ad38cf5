/** Promises 1 to 5: a new object, letter, blank, fault, take. */
public final class PageTest {
    private static final Check CHECK = new Check("PageTest");

    public static void main(String[] args) {
        newObject();
        letters();
        blanks();
        faults();
        everyEndOfATextIsATextsBeginning();
        takes();
        refusedTakes();
        CHECK.end();
    }

    private static void newObject() {
        CanDepths x = new CanDepths();
        CHECK.dueCounts("of a new object", x, 0, 0, 0, 0, 0, 0);
        CHECK.due("head(0, 0) of a new object", x.head(0, 0), CanDepths.UNKNOWN);
        CHECK.due("fault() of a new object", x.fault(), 0);
        CHECK.due("blank() of a new object", x.blank(), 0);
        CHECK.due("take() of a new object", x.take(), CanDepths.STATE);
        // 1621 and six numbers that are 0: 1621 * 31^6.
        CHECK.due("digest() of a new object", x.digest(), 1621L * 887503681L);
    }

    private static void letters() {
        CanDepths x = new CanDepths();
        for (int code : new int[] {31, 127, 0, -1, -48, 128, 1000, Integer.MIN_VALUE, Integer.MAX_VALUE}) {
            CHECK.dueRefused("letter(" + code + ")", x, x.digest(), x.letter(code), CanDepths.OUTSIDE);
        }
        CHECK.due("letter(32)", x.letter(32), 1);
        CHECK.due("letter(126)", x.letter(126), 2);
        for (int have = 3; have <= 60; have++) {
            CHECK.due("letter " + have, x.letter(48), have);
        }
        long full = x.digest();
        CHECK.dueRefused("letter(48) as the 61st", x, full, x.letter(48), CanDepths.FULL);
        CHECK.dueRefused("letter(31) as the 61st", x, full, x.letter(31), CanDepths.OUTSIDE);
        CHECK.dueRefused("letter(127) as the 61st", x, full, x.letter(127), CanDepths.OUTSIDE);
        CHECK.due("count(1)", x.count(1), 60);
    }

    private static void blanks() {
        CanDepths x = new CanDepths();
        Check.write(x, "12/");
        CHECK.due("blank()", x.blank(), 3);
        CHECK.due("count(1) behind blank()", x.count(1), 0);
        CHECK.due("blank() again", x.blank(), 0);
        CHECK.due("letter(49) behind blank()", x.letter(49), 1);
        for (int have = 2; have <= 60; have++) {
            x.letter(49);
        }
        CHECK.due("blank() of a full page", x.blank(), 60);
        CHECK.due("letter(49) behind blank() of a full page", x.letter(49), 1);
    }

    private static void dueFault(String text, int want) {
        CanDepths x = new CanDepths();
        Check.write(x, text);
        long before = x.digest();
        CHECK.dueRefused("fault() of " + text, x, before, x.fault(), want);
        boolean whole = text.equals("123/456/789");
        CHECK.due("take() of " + text, x.take(), whole ? 0 : CanDepths.STATE);
    }

    private static void faults() {
        dueFault("/", 0);
        dueFault("A", 0);
        dueFault(" ", 0);
        dueFault(":", 0);
        dueFault("`", 0);
        dueFault("{", 0);
        dueFault(".", 0);
        dueFault("0", 1);
        dueFault("9", 1);
        dueFault("a", 1);
        dueFault("z", 1);
        dueFault("Z", 0);
        dueFault("1/", 1);
        dueFault("12/", 2);
        dueFault("123/", 4);
        dueFault("1234/", 4);
        dueFault("12345/", 6);
        dueFault("123456/", 6);
        dueFault("1234567/", 8);
        dueFault("12345678", 7);
        dueFault("123//", 4);
        dueFault("123/4567", 7);
        dueFault("123/45/", 6);
        dueFault("123/456/789", 11);
        dueFault("123/456/789/", 11);
        dueFault("123/456/7890", 11);
        dueFault("12345/123/", 9);
        dueFault("12345/123456", 11);
        dueFault("1234567/1234567/12345678", 23);
        dueFault("1A3/456/789", 1);
        dueFault("1A3/B", 1);
    }

    private static void everyEndOfATextIsATextsBeginning() {
        for (String text : new String[] {Check.ROUND_3, Check.SKEW_5, Check.SKEW_7}) {
            CanDepths x = new CanDepths();
            for (int i = 0; i < text.length(); i++) {
                CHECK.due("take() of a part of " + text, x.take(), CanDepths.STATE);
                x.letter(text.charAt(i));
                CHECK.due("fault() of a part of " + text, x.fault(), i + 1);
            }
            x.letter('/');
            CHECK.due("fault() of " + text + "/", x.fault(), text.length());
            CHECK.due("take() of " + text + "/", x.take(), CanDepths.STATE);
        }
    }

    private static void takes() {
        CanDepths x = new CanDepths();
        String[] texts = {"0az/9by/18x", Check.SKEW_5, Check.SKEW_7, Check.DRY_3};
        for (int i = 0; i < texts.length; i++) {
            Check.write(x, texts[i]);
            CHECK.due("take() of " + texts[i], x.take(), i);
            CHECK.due("count(1) behind take()", x.count(1), 0);
            CHECK.due("count(0) behind take()", x.count(0), i + 1);
            CHECK.due("count(2) behind take()", x.count(2), i + 1);
        }
        for (int i = 0; i < texts.length; i++) {
            CHECK.dueText(x, i, texts[i]);
        }
    }

    private static void refusedTakes() {
        CanDepths x = Check.with(Check.ROUND_3, Check.ROUND_3, Check.ROUND_3, Check.ROUND_3);
        CHECK.dueRefused("take() of nothing with 4 heads", x, x.digest(), x.take(), CanDepths.STATE);
        Check.write(x, "123/456/78");
        CHECK.dueRefused("take() of no head with 4 heads", x, x.digest(), x.take(), CanDepths.STATE);
        x.letter('9');
        CHECK.dueRefused("take() with 4 heads", x, x.digest(), x.take(), CanDepths.FULL);
        CHECK.due("count(1) behind a refused take()", x.count(1), 11);
        CHECK.due("drop(0)", x.drop(0), 3);
        CHECK.due("take() when one is gone", x.take(), 3);
        CHECK.dueText(x, 3, "123/456/789");
        CHECK.dueText(x, 2, Check.ROUND_3);
    }
}
