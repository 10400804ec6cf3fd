/** Promises 13 and 14: the input buffer and its texts. */
public final class TextsTest {
    private static final Check CHECK = new Check();
    private static final Class<?> ARGUMENT = IllegalArgumentException.class;
    private static final Class<?> STATE = IllegalStateException.class;

    private static void due(String what, Object want, Check.Call call) {
        CHECK.due(what, want, call);
    }

    public static void main(String[] args) {
        feed();
        right();
        wrongPlaces();
        wrongNumbers();
        buffer();
        CHECK.end();
    }

    private static void feed() {
        TransducerBench x = new TransducerBench();
        for (int i = 1; i <= 120; i++) {
            int length = i;
            due("13: character " + i, length, () -> x.feed((char) (length * 541)));
        }
        due("13: character 121", STATE, () -> x.feed('0'));
        due("13: and again", STATE, () -> x.feed((char) 65535));
        due("14: the buffer is wrong from its first character", -100, () -> x.parse(0));
        due("13: the buffer is empty then", 1, () -> x.feed('0'));
    }

    private static Object parsed(String text) {
        TransducerBench x = Check.bench("!9;9>9:9/9");
        Check.feed(x, text);
        Object answer = Check.outcome(() -> x.parse(0));
        return answer + " " + Check.show(x, 0);
    }

    private static void right() {
        due("14: empty", "0 0", () -> parsed(""));
        due("14: a final state", "0 1", () -> parsed("!0"));
        due("14: two digits", "0 100000001000", () -> parsed("!11;!03;!3"));
        due("14: a rule", "1 0;0>1:5-5/", () -> parsed("0>1:5/"));
        due("14: all parts", "2 1;0>11:5-5,7-9/1000,1003,901,4;2>0:0-99/",
                () -> parsed("00>11:5,7-9,8/x,x+3,x-99,04;!0;2>0:0-99/"));
        due("14: neighbours are one range", "1 0;0>0:1-4/", () -> parsed("0>0:3-4,1-2/"));
        due("14: six terms", "1 0;0>0:1-1/1,2,3,4,5,6", () -> parsed("0>0:1/1,2,3,4,5,6"));
        due("14: an offset of minus nothing", "1 0;0>0:1-1/1000,1000", () -> parsed("0>0:1-1/x-0,x+00"));
        StringBuilder text = new StringBuilder("0>0:0/");
        StringBuilder looks = new StringBuilder("17 0;0>0:0-0/");
        for (int i = 1; i < 17; i++) {
            text.append(";0>0:0/");
            looks.append(";0>0:0-0/");
        }
        due("14: as many rules as a text can hold", looks.toString(), () -> parsed(text.toString()));
    }

    private static void wrongAt(int position, String text) {
        due("14: the place in " + text, (-100 - position) + " 1000000000;9>9:9-9/9", () -> parsed(text));
    }

    private static void wrongPlaces() {
        wrongAt(0, ";");
        wrongAt(0, "x");
        wrongAt(0, " 0>0:0/");
        wrongAt(0, ">");
        wrongAt(1, "!");
        wrongAt(1, "!!");
        wrongAt(3, "!123");
        wrongAt(2, "!1,!2");
        wrongAt(3, "!1;");
        wrongAt(3, "!1;;!2");
        wrongAt(1, "1");
        wrongAt(2, "12");
        wrongAt(2, "123>4:5/");
        wrongAt(1, "0:");
        wrongAt(2, "0>");
        wrongAt(2, "0>>");
        wrongAt(3, "0>1");
        wrongAt(3, "0>1/");
        wrongAt(4, "0>123:");
        wrongAt(4, "0>1:");
        wrongAt(4, "0>1:/");
        wrongAt(5, "0>1:9");
        wrongAt(5, "0>1:9;");
        wrongAt(6, "0>1:9-");
        wrongAt(6, "0>1:9-/");
        wrongAt(7, "0>1:9-9");
        wrongAt(7, "0>1:1-2-3/");
        wrongAt(6, "0>1:9,");
        wrongAt(6, "0>1:9,/");
        wrongAt(6, "0>1:100/");
        wrongAt(6, "0>1:9//");
        wrongAt(6, "0>1:9/,");
        wrongAt(6, "0>1:9/-1");
        wrongAt(7, "0>1:9/xx");
        wrongAt(7, "0>1:9/x1");
        wrongAt(8, "0>1:9/x+");
        wrongAt(8, "0>1:9/x-x");
        wrongAt(8, "0>1:9/x+-1");
        wrongAt(10, "0>1:9/x+123");
        wrongAt(8, "0>1:9/123");
        wrongAt(8, "0>1:9/1,");
        wrongAt(8, "0>1:9/1,;");
        wrongAt(8, "0>1:9/x,");
        wrongAt(7, "0>1:9/1-2");
        wrongAt(7, "0>1:9/X".replace('X', 'x') + "X");
        wrongAt(7, "0>1:9/;");
        wrongAt(0, "\u0660");
        wrongAt(5, "0>1:9" + (char) ('/' + 256));
    }

    private static void refused(String text) {
        due("14: " + text, "class java.lang.IllegalArgumentException 1000000000;9>9:9-9/9",
                () -> parsed(text));
    }

    private static void wrongNumbers() {
        refused("!12");
        refused("!99;!1");
        refused("12>0:0/");
        refused("0>12:0/");
        refused("0>0:5-4/");
        refused("0>0:1,5-4/;!0");
        refused("0>0:0/x,x,x,x,x,x,x");
        refused("0>0:0/1,2,3,4,5,6,7,8;!0");
        wrongAt(3, "!12?");
        wrongAt(7, "0>0:5-4?");
        wrongAt(20, "0>0:0/x,x,x,x,x,x,x,");
    }

    private static void buffer() {
        TransducerBench x = new TransducerBench();
        Check.feed(x, "!1");
        due("14: slot 4", ARGUMENT, () -> x.parse(4));
        due("14: slot -1", ARGUMENT, () -> x.parse(-1));
        due("14: the buffer stays without a slot", 3, () -> x.feed('1'));
        due("14: and is parsed later", 0, () -> x.parse(3));
        due("14: into its slot", 1 << 11, () -> x.finals(3));
        Check.feed(x, "!12");
        due("14: refused", ARGUMENT, () -> x.parse(3));
        due("14: the buffer is empty after an exception", 0, () -> x.parse(3));
        due("14: an empty text empties the slot", 0, () -> x.finals(3));
        Check.feed(x, "!1;");
        due("14: an error", -103, () -> x.parse(3));
        due("14: the buffer is empty after an error", 1, () -> x.feed('!'));
    }
}
