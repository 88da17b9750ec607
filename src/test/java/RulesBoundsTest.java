/** What the terms say of RULES, LETTERS and FAULTS, at their bounds; promises 3 and 4 tell it. */
public final class RulesBoundsTest {
    private static final int NONE = SectionLand.NONE;
    private static final Check check = new Check();
    private static final int SIGNS = 256;

    public static void main(String[] args) {
        howManyRules();
        oneBetween();
        endsTooEarly();
        everySignAtEveryPlace();
        withoutBlanks();
        letters();
        noneOfTheFirst();
        firstStrangeOne();
        repeated();
        firstRepeatedOne();
        kindsInOrder();
        check.end("RulesBoundsTest");
    }

    private static void fault(String text, int kind, int place) {
        SectionLand x = new SectionLand();
        check.due("system " + text, Check.read(x, text), kind == 0 ? 0 : -10 - kind);
        check.due("kind " + text, x.fault(0), kind);
        check.due("place " + text, x.fault(1), place);
    }

    private static String repeat(String rule, int times) {
        StringBuilder text = new StringBuilder(rule);
        for (int i = 1; i < times; i++) {
            text.append(';').append(rule);
        }
        return text.toString();
    }

    private static void howManyRules() {
        check.sentence(0, "RULES, with one ; between, 2 .. 8 of them");
        fault("", 1, 0);
        fault("a+a=a", 1, 5);
        for (int n = 2; n <= 8; n++) {
            fault(Texts.still(n), 0, NONE);
            fault(Texts.turning(n, 1, n - 1), 0, NONE);
        }
        fault(Texts.still(8) + ";a+a=a", 1, 47);
        fault(Texts.still(8) + ";a+a=a;b+b=b", 1, 47);
        check.sentence(0, "n is how many RULES there are");
        for (int n = 2; n <= 8; n++) {
            SectionLand x = Check.land(Texts.still(n));
            check.due("n", x.table(0, 0, 4), n);
            check.due("the last class", x.table(0, n - 1, 0), n - 1);
            check.due("one more", x.table(0, n, 0), NONE);
        }
    }

    private static void oneBetween() {
        check.sentence(0, "with one ; between");
        for (int n = 1; n <= 8; n++) {
            int size = 6 * n - 1;
            String text = n == 1 ? "a+a=a" : Texts.still(n);
            fault(text + ";", 1, n == 8 ? 47 : size + 1);
            fault(text + ";;", 1, n == 8 ? 47 : size + 1);
            fault(text + "a+a=a", 1, size);
            fault(text + ",", 1, size);
            fault(";" + text, 1, 0);
        }
        fault("a+b=bb+a=a", 1, 5);
        fault("a+b=b;;b+a=a", 1, 6);
    }

    private static void endsTooEarly() {
        check.sentence(0, "(the size of THE TAPE, if it ends too early)");
        String text = repeat("h+h=h", 8);
        for (int size = 0; size <= 47; size++) {
            boolean isWhole = size >= 11 && size % 6 == 5;
            int kind = size == 47 ? 3 : isWhole ? 2 : 1;
            fault(text.substring(0, size), kind, size == 47 ? 6 : isWhole ? 0 : size);
        }
    }

    private static boolean fits(int place, int sign) {
        switch (place % 6) {
            case 1: return sign == '+';
            case 3: return sign == '=';
            case 5: return sign == ';';
            default: return sign >= 'a' && sign <= 'h';
        }
    }

    private static void everySignAtEveryPlace() {
        check.sentence(0, "kind 1: the place of the first byte with which no such text can go on");
        String text = Texts.still(8);
        for (int place = 0; place < text.length(); place++) {
            for (int sign = 0; sign < SIGNS; sign++) {
                SectionLand x = new SectionLand();
                int answer = Check.read(x, Texts.with(text, place, sign));
                String label = "sign " + sign + " at " + place;
                check.due(label, answer == -11 ? 1 : 0, fits(place, sign) ? 0 : 1);
                if (answer == -11) {
                    check.due(label, x.fault(1), place);
                }
            }
        }
        for (int sign = 0; sign < SIGNS; sign++) {
            fault(Texts.still(8) + (char) sign, 1, 47);
            fault(Texts.still(2) + (char) sign, 1, sign == ';' ? 12 : 11);
        }
        fault("a+b=?;b+?=a", 1, 4);
    }

    private static void withoutBlanks() {
        check.sentence(0, "LETTER + LETTER = LETTER, without blanks");
        for (int place = 0; place <= 11; place++) {
            fault(Texts.TWO.substring(0, place) + " " + Texts.TWO.substring(place), 1, place);
        }
    }

    private static void letters() {
        check.sentence(0, "LETTERS are a .. h, classes 0 .. 7");
        for (int place = 0; place < 11; place += 2) {
            fault(Texts.with(Texts.TWO, place, '`'), 1, place);
            fault(Texts.with(Texts.TWO, place, 'h'), 2, place);
            fault(Texts.with(Texts.TWO, place, 'i'), 1, place);
            fault(Texts.with(Texts.TWO, place, 'A'), 1, place);
            fault(Texts.with(Texts.TWO, place, 'a' + 128), 1, place);
        }
        SectionLand x = Check.land("h+a=b;g+b=c;f+c=d;e+d=e;d+e=f;c+f=g;b+g=h;a+h=a");
        check.row("wife", 0, c -> x.table(0, c, 0), 7, 6, 5, 4, 3, 2, 1, 0, NONE);
        check.row("child of a woman's", 0, c -> x.table(0, c, 1), 1, 2, 3, 4, 5, 6, 7, 0, NONE);
    }

    /** In a text of n rules the last letter of the first n is put, and the one behind it. */
    private static void noneOfTheFirst() {
        check.sentence(0, "kind 2: that of the first LETTER that is none of the first n");
        for (int n = 2; n <= 7; n++) {
            String text = Texts.still(n);
            for (int place = 0; place < text.length(); place += 2) {
                fault(Texts.with(text, place, 'a' + n), 2, place);
                fault(Texts.with(text, place, 'h'), 2, place);
                SectionLand x = new SectionLand();
                Check.read(x, Texts.with(text, place, 'a' + n - 1));
                check.due("the last of the first " + n, x.fault(0) == 2 ? 1 : 0, 0);
            }
        }
        fault(repeat("h+h=h", 8), 3, 6);
    }

    private static void firstStrangeOne() {
        check.sentence(0, "the first LETTER that is none of the first n");
        fault("c+c=c;c+c=c", 2, 0);
        fault("a+c=c;c+c=c", 2, 2);
        fault("a+b=c;c+c=c", 2, 4);
        fault("a+b=b;c+c=c", 2, 6);
        fault("a+b=b;b+c=c", 2, 8);
        fault("a+b=b;b+a=c", 2, 10);
    }

    /** Each letter of each later rule becomes that of each earlier one. */
    private static void repeated() {
        check.sentence(0, "that of the first LETTER that stands first, or second, or third in a RULE, "
                + "as it did in an earlier one");
        for (int n = 2; n <= 8; n++) {
            String text = Texts.turning(n, 1, 1);
            for (int place = 6; place < text.length(); place += 2) {
                for (int earlier = place - 6; earlier >= 0; earlier -= 6) {
                    fault(Texts.with(text, place, text.charAt(earlier)), 3, place);
                }
            }
        }
        fault("a+a=a;b+b=b", 0, NONE);
        fault("a+b=b;b+a=a", 0, NONE);
    }

    private static void firstRepeatedOne() {
        check.sentence(0, "kind 3: that of the first LETTER");
        fault("a+b=b;a+b=b", 3, 6);
        fault("a+b=b;b+b=b", 3, 8);
        fault("a+b=b;b+a=b", 3, 10);
        fault("a+b=c;b+c=a;a+b=c", 3, 12);
        fault("a+b=c;b+c=c;a+a=b", 3, 10);
    }

    private static void kindsInOrder() {
        check.sentence(0, "FAULTS: kind 1: the place of the first byte with which no such text can go on "
                + "(the size of THE TAPE, if it ends too early); else kind 2: that of the first LETTER that is none "
                + "of the first n; else kind 3:");
        fault("h+h=h;a+a=?", 1, 10);
        fault("a+a=a;a+a=?", 1, 10);
        fault("h+h=h;h+h=", 1, 10);
        fault("a+a=a;a+a=a;", 1, 12);
        fault("a+a=a;a+a=c", 2, 10);
        fault("a+a=a;a+h=a", 2, 8);
        fault("h+a=a;h+a=a", 2, 0);
    }
}
