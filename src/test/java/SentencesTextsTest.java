/** Promises 13 and 14 and the paragraph 'Texts', sentence by sentence. */
public final class SentencesTextsTest {
    private static final Sentences S = new Sentences();
    private static final Class<?> ARGUMENT = IllegalArgumentException.class;
    private static final Class<?> STATE = IllegalStateException.class;
    private static final String OLD = "1000000000;9>9:9-9/9";

    public static void main(String[] args) {
        texts();
        items();
        ranges();
        terms();
        numbers();
        meanings();
        meaningOfTerms();
        errorPosition();
        every();
        feed();
        fullBuffer();
        parse();
        bufferAfterwards();
        oneAfterAnother();
        refused();
        moreThanFortyRules();
        refusedOnlyIfCorrect();
        S.end();
    }

    /** What parse answers, and the looks of the slot then, which held something else. */
    private static Object parsed(String text) {
        TransducerBench x = Check.bench("!9;9>9:9/9");
        Check.feed(x, text);
        Object answer = Check.outcome(() -> x.parse(0));
        return answer + " " + Check.show(x, 0);
    }

    private static void right(String text, String looks) {
        int rules = looks.split(">").length - 1;
        S.due("'" + text + "'", rules + " " + looks, () -> parsed(text));
    }

    private static void wrong(String text, int position) {
        S.due("'" + text + "'", (-100 - position) + " " + OLD, () -> parsed(text));
    }

    private static void texts() {
        S.sentence("Texts", "text = [ item { \";\" item ]}");
        right("", "0");
        right("!0", "1");
        right("!0;!1", "11");
        right("0>0:0/;0>0:1/", "0;0>0:0-0/;0>0:1-1/");
        right("!0;0>0:0/;!1;0>0:1/;!2", "111;0>0:0-0/;0>0:1-1/");
        wrong(";", 0);
        wrong(";!0", 0);
        wrong("!0;", 3);
        wrong("!0;;!0", 3);
        wrong("!0!1", 2);
        wrong("!0,!1", 2);
        wrong("0>0:0/;", 7);
        wrong("0>0:0/0>0:0/", 7);
        wrong(" ", 0);
        wrong("!0 ", 2);
        wrong("!0; !0", 3);
    }

    private static void items() {
        S.sentence("Texts", "item = \"!\" number | number \">\" number \":\" range { \",\" range \"/\" [ term { "
                + "\",\" term } ]}");
        right("!11", "100000000000");
        wrong("!", 1);
        wrong("!!", 1);
        wrong("!x", 1);
        wrong("!-1", 1);
        wrong("!;", 1);
        right("0>1:2/", "0;0>1:2-2/");
        wrong("0", 1);
        wrong("0;", 1);
        wrong("0:", 1);
        wrong("0>", 2);
        wrong("0>>", 2);
        wrong("0>;", 2);
        wrong("0>1", 3);
        wrong("0>1;", 3);
        wrong("0>1/", 3);
        wrong("0>1:", 4);
        wrong("0>1:;", 4);
        wrong("0>1:/", 4);
        wrong("0>1:x/", 4);
        wrong("0>1:2", 5);
        wrong("0>1:2;", 5);
        right("0>1:2,4/", "0;0>1:2-2,4-4/");
        wrong("0>1:2,", 6);
        wrong("0>1:2,/", 6);
        wrong("0>1:2,,3/", 6);
        right("0>1:2/x,7,x", "0;0>1:2-2/1000,7,1000");
        wrong("0>1:2/,", 6);
        wrong("0>1:2/,x", 6);
        wrong("0>1:2/x,", 8);
        wrong("0>1:2/x,,x", 8);
        wrong("0>1:2/x,;", 8);
        wrong("0>1:2/x/", 7);
        wrong("0>1:2//", 6);
        wrong("0>1:2/!0", 6);
        wrong("0>1:2/>", 6);
    }

    private static void ranges() {
        S.sentence("Texts", "range = number [ \"-\" number ]");
        right("0>1:2-2/", "0;0>1:2-2/");
        right("0>1:2-3/", "0;0>1:2-3/");
        right("0>1:0-99/", "0;0>1:0-99/");
        right("0>1:99/", "0;0>1:99-99/");
        right("0>1:00-09/", "0;0>1:0-9/");
        wrong("0>1:2-", 6);
        wrong("0>1:2-/", 6);
        wrong("0>1:2-,3/", 6);
        wrong("0>1:2--3/", 6);
        wrong("0>1:2-3-4/", 7);
        wrong("0>1:-2/", 4);
        wrong("0>1:2+3/", 5);
        wrong("0>1:2-x/", 6);
    }

    private static void terms() {
        S.sentence("Texts", "term = number | \"x\" [ ( \"+\" | \"-\" ) number ]");
        right("0>1:2/0", "0;0>1:2-2/0");
        right("0>1:2/99", "0;0>1:2-2/99");
        right("0>1:2/x", "0;0>1:2-2/1000");
        right("0>1:2/x+9", "0;0>1:2-2/1009");
        right("0>1:2/x-9", "0;0>1:2-2/991");
        right("0>1:2/x+99,x-99", "0;0>1:2-2/1099,901");
        right("0>1:2/x+0,x-0,x+00,x-00", "0;0>1:2-2/1000,1000,1000,1000");
        wrong("0>1:2/x+", 8);
        wrong("0>1:2/x-", 8);
        wrong("0>1:2/x+,", 8);
        wrong("0>1:2/x-;", 8);
        wrong("0>1:2/x++1", 8);
        wrong("0>1:2/x+-1", 8);
        wrong("0>1:2/x1", 7);
        wrong("0>1:2/xx", 7);
        wrong("0>1:2/+1", 6);
        wrong("0>1:2/-1", 6);
        wrong("0>1:2/1+1", 7);
        wrong("0>1:2/1-1", 7);
        wrong("0>1:2/1x", 7);
        wrong("0>1:2/X", 6);
        wrong("0>1:2/x*2", 7);
        wrong("0>1:2/x+1+1", 9);
        wrong("0>1:2/x+x", 8);
    }

    private static void numbers() {
        S.sentence("Texts", "number = digit [ digit ]");
        right("!00", "1");
        right("!09", "1000000000");
        right("00>01:02-03/04,x+05", "0;0>1:2-3/4,1005");
        right("10>11:98-99/10,x+10,x-10", "0;10>11:98-99/10,1010,990");
        wrong("!000", 3);
        wrong("100>1:2/", 2);
        wrong("0>100:2/", 4);
        wrong("0>1:100/", 6);
        wrong("0>1:1-100/", 8);
        wrong("0>1:2/100", 8);
        wrong("0>1:2/x+100", 10);
        wrong("0>1:2/x-100", 10);
        for (char digit = '0'; digit <= '9'; digit++) {
            int value = digit - '0';
            right("0>0:" + digit + "/" + digit + digit,
                    "0;0>0:" + value + "-" + value + "/" + 11 * value);
        }
        wrong("!/", 1);
        wrong("!:", 1);
        wrong("!1/", 2);
        wrong("!1:", 2);
        wrong("!\u0661", 1);
        wrong("!\uff11", 1);
        wrong("!1\u00b2", 2);
    }

    private static void meanings() {
        S.sentence("Texts", "The item with ! makes a state final.");
        for (int state = 0; state < 12; state++) {
            right("!" + state, Integer.toBinaryString(1 << state));
        }
        right("!3;!3;!3", "1000");
        right("!3;0>1:2/;!5", "101000;0>1:2-2/");
        S.sentence("Texts", "The other item is a rule: from the first state to the second one, with a guard "
                + "that is the union of the ranges, from the first number to the second one, both included, "
                + "or of one symbol only; and with its terms: a number for a constant, x for the offset 0, "
                + "x+n for the offset n and x-n for the offset -n.");
        right("11>0:5/", "0;11>0:5-5/");
        right("0>11:5/", "0;0>11:5-5/");
        right("7>7:5/", "0;7>7:5-5/");
        right("0>0:5-9,7-12/", "0;0>0:5-12/");
        right("0>0:7-12,5-9/", "0;0>0:5-12/");
        right("0>0:5-6,7,8-9/", "0;0>0:5-9/");
        right("0>0:9,5,7,5/", "0;0>0:5-5,7-7,9-9/");
        right("0>0:60-70,63,64/", "0;0>0:60-70/");
        right("0>0:0,99/", "0;0>0:0-0,99-99/");
        right("0>0:5,0-99/", "0;0>0:0-99/");
        S.sentence("Texts", "Rules are numbered in their order.");
        right("3>0:3/;!1;1>0:1/;2>0:2/;!0", "11;3>0:3-3/;1>0:1-1/;2>0:2-2/");
        right("0>0:1/1;0>0:1/1;0>0:1/0", "0;0>0:1-1/1;0>0:1-1/1;0>0:1-1/0");
    }

    private static void meaningOfTerms() {
        S.sentence("Texts", "a number for a constant, x for the offset 0, x+n for the offset n and x-n for "
                + "the offset -n.");
        for (int n = 0; n < 100; n++) {
            right("0>0:0/" + n + ",x,x+" + n + ",x-" + n,
                    "0;0>0:0-0/" + n + ",1000," + (1000 + n) + "," + (1000 - n));
        }
        right("0>0:0/x-1;0>0:0/x,1;0>0:0/", "0;0>0:0-0/999;0>0:0-0/1000,1;0>0:0-0/");
    }

    private static void errorPosition() {
        S.sentence("Texts", "The error position is the offset, from 0, of the first character that cannot "
                + "continue such a text, or the length of the text if it ends too early.");
        String text = "!1;02>11:3-45,6,78-99/x,9,x+10,x-2;!0";
        boolean[] isWhole = new boolean[text.length() + 1];
        for (int length : new int[] {0, 2, 22, 23, 25, 27, 29, 30, 32, 34, 37}) {
            isWhole[length] = true;
        }
        for (int length = 0; length <= text.length(); length++) {
            String begin = text.substring(0, length);
            if (isWhole[length]) {
                S.due("'" + begin + "' is whole", true, () -> !parsed(begin).toString().startsWith("-"));
            } else {
                wrong(begin, length);
            }
            wrong(begin + "?", length);
            wrong(begin + "?;;", length);
            wrong(begin + (char) 0, length);
            wrong(begin + (char) 65535 + "!0", length);
        }
        wrong("0>1:9", 5);
        StringBuilder most = new StringBuilder("00>00:0/");
        for (int i = 0; i < 16; i++) {
            most.append(";0>0:0/");
        }
        wrong(most.substring(0, 119), 119);
        wrong(most.substring(0, 119) + "!", 119);
        wrong(most.substring(0, 113) + ";0>0:0,", 120);
        wrong("?" + most.substring(0, 119), 0);
    }

    /** All short texts and endings of texts, compared with Naive's pattern. */
    private static void every() {
        S.sentence("Texts", "The error position is the offset, from 0, of the first character that cannot "
                + "continue such a text, or the length of the text if it ends too early.");
        every("", "!0>;:1", 4);
        every("1>1", "10:>,-/", 4);
        every("1>1:1", "19-,/;!x", 4);
        every("1>1:1/", "1x+-,;!/", 4);
        every("1>1:1/x", "10+-,;x!", 4);
    }

    private static void every(String begin, String letters, int most) {
        long count = 1;
        for (int length = 0; length <= most; length++) {
            long texts = count;
            S.due("texts of '" + begin + "' and " + length + " of " + letters, 0L, () -> {
                long differing = 0;
                for (long number = 0; number < texts; number++) {
                    differing += isAlike(begin + spelt(number, length(texts, letters), letters)) ? 0 : 1;
                }
                return differing;
            });
            count *= letters.length();
        }
    }

    private static int length(long texts, String letters) {
        int length = 0;
        for (long left = texts; left > 1; left /= letters.length()) {
            length++;
        }
        return length;
    }

    private static String spelt(long number, int length, String letters) {
        StringBuilder text = new StringBuilder();
        long left = number;
        for (int i = 0; i < length; i++) {
            text.append(letters.charAt((int) (left % letters.length())));
            left /= letters.length();
        }
        return text.toString();
    }

    private static boolean isAlike(String text) {
        TransducerBench x = new TransducerBench();
        Naive naive = new Naive();
        for (int i = 0; i < text.length(); i++) {
            x.feed(text.charAt(i));
            naive.feed(text.charAt(i));
        }
        Object want = Check.outcome(() -> naive.parse(0));
        Object got = Check.outcome(() -> x.parse(0));
        if (!got.equals(want)) {
            System.out.println("'" + text + "' answered " + got + ", due is " + want);
        }
        return got.equals(want);
    }

    private static void feed() {
        S.sentence("Promise 13", "Appends a character to the input buffer.");
        S.due("behind the others", 1 << 10, () -> {
            TransducerBench x = new TransducerBench();
            x.feed('!');
            x.feed('1');
            x.feed('0');
            x.parse(0);
            return x.finals(0);
        });
        S.sentence("Promise 13", "`letter`: any character");
        for (char letter : new char[] {0, 1, '\n', ' ', '?', 127, 128, 255, 256, 0xd800, 0xdfff, 65535}) {
            TransducerBench x = new TransducerBench();
            S.due("feed " + (int) letter, 1, () -> x.feed(letter));
            S.due("feed " + (int) letter + " again", 2, () -> x.feed(letter));
            S.due("which is no text", -100, () -> x.parse(0));
        }
    }

    private static void fullBuffer() {
        S.sentence("Promise 13", "Returns the number of characters in the buffer.");
        StringBuilder text = new StringBuilder("00>00:0/");
        for (int i = 0; i < 16; i++) {
            text.append(";0>0:0/");
        }
        TransducerBench x = new TransducerBench();
        for (int i = 0; i < 120; i++) {
            char letter = text.charAt(i);
            S.due("after " + i, i + 1, () -> x.feed(letter));
        }
        S.sentence("Promise 13",
                "Throws IllegalStateException if the buffer already holds 120 characters");
        S.due("a character more", STATE, () -> x.feed(';'));
        S.due("and again", STATE, () -> x.feed('?'));
        S.due("the text of 120 is whole", 17, () -> x.parse(0));
        S.due("a character of the next one", 1, () -> x.feed('!'));
        S.due("its end", -101, () -> x.parse(0));
    }

    private static void parse() {
        S.sentence("Promise 14", "Parses the input buffer as a transducer, which is put into a slot.");
        right("", "0");
        right("!1", "10");
        right("1>2:3/4", "0;1>2:3-3/4");
        S.due("the other slots stay", "1 10 100", () -> {
            TransducerBench x = Check.bench("!0", "!1", "!2", "!3");
            Check.feed(x, "");
            x.parse(3);
            return Check.show(x, 0) + " " + Check.show(x, 1) + " " + Check.show(x, 2);
        });
        S.sentence("Promise 14",
                "Returns the number of rules; -100 minus the error position after a syntax error.");
        S.due("none", 0, () -> outcome("!0;!1"));
        S.due("one", 1, () -> outcome("!0;0>0:0/;!1"));
        S.due("alike ones", 3, () -> outcome("0>0:0/;0>0:0/;0>0:0/"));
        S.due("position 0", -100, () -> outcome("?"));
        S.due("position 1", -101, () -> outcome("!"));
        S.due("position 5", -105, () -> outcome("0>1:9"));
        StringBuilder text = new StringBuilder("0>0:0");
        for (int i = 5; i < 119; i += 3) {
            text.append(",10");
        }
        S.due("a rule of 119 characters that ends too early", -219, () -> outcome(text.toString()));
        S.due("the same of 120 characters", 1, () -> outcome(text + "/"));
        S.due("a syntax error at the last of 120", -219, () -> outcome(text + ";"));
        S.due("120 characters that end too early", -220, () -> outcome(text + ","));
    }

    private static Object outcome(String text) {
        TransducerBench x = new TransducerBench();
        Check.feed(x, text);
        return x.parse(2);
    }

    private static void bufferAfterwards() {
        S.sentence("Promise 14", "The buffer is empty afterwards, also after an error or an exception, but "
                + "not if there is no such slot.");
        String[] texts = {"", "!1", "0>0:0/", "!", "0>0:0/?", "!12", "0>0:1-0/", "0>0:0/1,2,3,4,5,6,7"};
        for (String text : texts) {
            TransducerBench x = new TransducerBench();
            Check.feed(x, text);
            Check.outcome(() -> x.parse(0));
            S.due("after '" + text + "'", 1, () -> x.feed('!'));
            S.due("and nothing of it", -101, () -> x.parse(0));
        }
        for (int slot : new int[] {-1, 4, Integer.MIN_VALUE, Integer.MAX_VALUE}) {
            TransducerBench x = new TransducerBench();
            Check.feed(x, "!1");
            S.due("slot " + slot, ARGUMENT, () -> x.parse(slot));
            S.due("slot " + slot + ", the buffer goes on", 3, () -> x.feed('1'));
            S.due("slot " + slot + ", and again", ARGUMENT, () -> x.parse(slot));
            S.due("slot " + slot + ", it is read later", 0, () -> x.parse(0));
            S.due("slot " + slot + ", all of it", 1 << 11, () -> x.finals(0));
        }
    }

    private static void oneAfterAnother() {
        S.sentence("Promise 14", "Parses the input buffer as a transducer, which is put into a slot.");
        String[] texts = {"!12", "!1", "0>0:1-0/", "0>0:0/5", "0>0:0/1,2,3,4,5,6,7", "0>0:0/1,2,3,4,5,6",
            "!5;?", "", "!5;0>0:1/;12>0:0/", "0>0:1/;!4", "!", "!0"};
        Object[] want = {ARGUMENT, 0, ARGUMENT, 1, ARGUMENT, 1, -103, 0, ARGUMENT, 1, -101, 0};
        String[] looks = {"0", "10", "10", "0;0>0:0-0/5", "0;0>0:0-0/5", "0;0>0:0-0/1,2,3,4,5,6",
            "0;0>0:0-0/1,2,3,4,5,6", "0", "0", "10000;0>0:1-1/", "10000;0>0:1-1/", "1"};
        TransducerBench x = new TransducerBench();
        for (int i = 0; i < texts.length; i++) {
            Check.feed(x, texts[i]);
            S.due("'" + texts[i] + "' after others", want[i], () -> x.parse(1));
            S.due("its looks", looks[i], () -> Check.show(x, 1));
        }
    }

    private static void refused(String text) {
        S.due("'" + text + "'", ARGUMENT + " " + OLD, () -> parsed(text));
    }

    private static void refused() {
        S.sentence("Promise 14", "Throws IllegalArgumentException if there is no such slot, or if the text is "
                + "correct and has a number of a state above 11, a range whose second number is below its "
                + "first one, or a rule with more than 6 terms");
        right("!11;11>11:1/", "100000000000;11>11:1-1/");
        refused("!12");
        refused("!99");
        refused("!0;!12;!1");
        refused("12>0:1/");
        refused("0>12:1/");
        refused("99>99:1/");
        refused("0>0:1/;0>13:1/;!0");
        right("0>0:7-7/", "0;0>0:7-7/");
        refused("0>0:7-6/");
        refused("0>0:99-0/");
        refused("0>0:0-99,7-6/");
        refused("0>0:7-6,0-99/");
        refused("!0;0>0:10-9/x;!1");
        right("0>0:0/1,2,3,4,5,x", "0;0>0:0-0/1,2,3,4,5,1000");
        refused("0>0:0/1,2,3,4,5,x,7");
        refused("0>0:0/x,x,x,x,x,x,x,x,x,x,x,x,x,x");
        refused("0>0:0/1,2,3,4,5,6,7;0>0:1/1;!0");
        right("0>0:0/1,2,3,4,5,6;0>0:0/1,2,3,4,5,6", "0;0>0:0-0/1,2,3,4,5,6;0>0:0-0/1,2,3,4,5,6");
    }

    /**
     * No run of calls comes to this exception: the shortest rule, "0>0:0/", has 6 characters, and a ";"
     * stands between two rules, so that 41 rules need 286 characters; but the buffer holds 120, which
     * are 17 rules at most. So the checks are that it does not come where it must not.
     */
    private static void moreThanFortyRules() {
        S.sentence("Promise 14", "Throws IllegalStateException if there would be more than 40 rules");
        StringBuilder most = new StringBuilder("0>0:0/");
        for (int i = 1; i < 17; i++) {
            most.append(";0>0:0/");
        }
        S.due("17 rules, the most that a text can have", 17, () -> outcome(most.toString()));
        S.due("17 rules into a slot that has 40, in place of them", 17, () -> {
            TransducerBench x = new TransducerBench();
            for (int i = 0; i < 40; i++) {
                x.addRule(0, 0, 0, i, i);
            }
            Check.feed(x, most.toString());
            return x.parse(0);
        });
        S.due("a text of 18 rules can't be fed", 120, () -> {
            TransducerBench x = new TransducerBench();
            int length = 0;
            String text = most + ";0>0:0/";
            for (int i = 0; i < text.length(); i++) {
                char letter = text.charAt(i);
                Object answer = Check.outcome(() -> x.feed(letter));
                length = answer instanceof Integer ? (Integer) answer : length;
            }
            return length;
        });
    }

    private static void refusedOnlyIfCorrect() {
        S.sentence("Promise 14", "if the text is correct and has a number of a state above 11");
        wrong("!12;", 4);
        wrong("!12?", 3);
        wrong("12>0:1", 6);
        wrong("0>12:1/,", 7);
        wrong("0>0:7-6", 7);
        wrong("0>0:7-6?", 7);
        wrong("0>0:0/1,2,3,4,5,6,7,", 20);
        wrong("0>0:0/1,2,3,4,5,6,7;!", 21);
        wrong("0>0:0/1,2,3,4,5,6,7x", 19);
    }
}
