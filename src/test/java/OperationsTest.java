/** Promises 30 to 34: composition, inversion, restriction, trimming and copying. */
public final class OperationsTest {
    private static final Check CHECK = new Check();
    private static final Class<?> ARGUMENT = IllegalArgumentException.class;
    private static final Class<?> STATE = IllegalStateException.class;
    private static final Class<?> UNSUPPORTED = UnsupportedOperationException.class;

    private static void due(String what, Object want, Check.Call call) {
        CHECK.due(what, want, call);
    }

    public static void main(String[] args) {
        compose();
        composeIntoItself();
        composeTooMuch();
        composeDeadEnds();
        invert();
        restrict();
        trim();
        copy();
        CHECK.end();
    }

    private static String composed(String a, String b) {
        TransducerBench x = Check.bench(a, b, "!9;9>9:9/9");
        Object answer = Check.outcome(() -> x.compose(0, 1, 2));
        return answer + " " + Check.show(x, 2);
    }

    private static void composition(String want, String a, String b) {
        due("30: " + a + " then " + b, want, () -> composed(a, b));
    }

    private static void compose() {
        composition("0 0", "", "");
        composition("0 1", "!0", "!0");
        composition("0 0", "!0", "");
        composition("1 11;0>1:1-5/", "!0;!1;0>1:1-5/", "!0");
        composition("1 0;0>1:1-5/", "!1;0>1:1-5/", "!1;0>1:1-5/");
        composition("1 10;0>1:3-5/1005,7", "!1;0>1:1-5/x+2", "!1;0>1:5-9/x+3,7");
        composition("1 10;0>1:1-5/8,7", "!1;0>1:1-5/5", "!1;0>1:5-9/x+3,7");
        composition("0 0", "!1;0>1:1-5/4", "!1;0>1:5-9/x+3,7");
        composition("2 100;0>1:1-1/1;0>2:1-1/2", "!1;0>1:1/x", "!2;0>1:1/1;0>2:1/2");
        composition("4 1;0>0:1-1/1,1;0>0:1-1/1,2;0>0:1-1/2,1;0>0:1-1/2,2",
                "!0;0>0:1/x,x", "!0;0>0:1/1;0>0:1/2");
        composition("1 0;0>0:4-4/1001", "0>0:0-9/x,x+1", "0>1:3-4/;1>0:5-6/x;9>9:9/");
        composition("1 0;0>1:1-1/", "0>5:1/;5>5:2/3", "4>4:0-99/");
        composition("1 0;0>0:0-0/1099", "0>0:0-99/x+50", "0>0:0-99/x+49");
        composition("1 0;0>0:0-49/99,1000", "0>0:0-99/x+50", "0>0:0-99/99,x-50");
    }

    private static void composeIntoItself() {
        TransducerBench x = Check.bench("!0;0>0:0-9/x+1", "!0;0>0:5-9/x,x");
        due("30: into the first", 1, () -> x.compose(0, 1, 0));
        due("30: looks", "1;0>0:4-8/1001,1001", () -> Check.show(x, 0));
        due("30: into the second", 1, () -> x.compose(0, 1, 1));
        due("30: looks then", "1;0>0:4-8/1001,1001,1001,1001", () -> Check.show(x, 1));
        due("30: with itself into itself has eight terms", UNSUPPORTED, () -> x.compose(1, 1, 1));
        due("30: which stays", "1;0>0:4-8/1001,1001,1001,1001", () -> Check.show(x, 1));
        due("30: a", ARGUMENT, () -> x.compose(4, 0, 0));
        due("30: b", ARGUMENT, () -> x.compose(0, -1, 0));
        due("30: target", ARGUMENT, () -> x.compose(0, 0, 4));
        due("30: target before what is too much", ARGUMENT, () -> x.compose(1, 1, -1));
    }

    private static void composeTooMuch() {
        composition(UNSUPPORTED + " 1000000000;9>9:9-9/9", "0>0:1/1,1", "0>0:1/1,1,1,1");
        composition("1 0;0>0:1-1/1,1,1,1,1,1", "0>0:1/1,1", "0>0:1/1,1,1");
        composition("0 0", "0>0:1/1,1", "0>0:2/1,1,1,1,1,1");
        composition("1 0;0>0:1-1/1,1,1,1,1,1", "0>0:1/1,2", "0>0:1/1,1,1,1,1,1;0>0:2/;0>0:3/1,1,1,1,1,1");
        TransducerBench x = new TransducerBench();
        for (int i = 0; i < 4; i++) {
            x.addRule(0, i, (i + 1) % 4, 1, 1);
            x.addTerm(0, i, true, 0);
        }
        for (int i = 0; i < 3; i++) {
            x.addRule(1, i, (i + 1) % 3, 1, 1);
        }
        due("30: twelve pairs", 12, () -> x.compose(0, 1, 2));
        for (int i = 0; i < 5; i++) {
            x.addRule(3, i, (i + 1) % 5, 1, 1);
            x.addTerm(3, i, true, 0);
        }
        due("30: fifteen pairs", UNSUPPORTED, () -> x.compose(3, 1, 2));
        due("30: the target stays", 12, () -> x.rules(2));
        TransducerBench y = new TransducerBench();
        for (int i = 0; i < 40; i++) {
            y.addRule(0, 0, 0, i, i);
            y.addTerm(0, i, true, 0);
        }
        y.addRule(1, 0, 0, 0, 99);
        due("30: forty rules", 40, () -> y.compose(0, 1, 2));
        y.addRule(1, 0, 0, 39, 39);
        due("30: forty-one rules", UNSUPPORTED, () -> y.compose(0, 1, 2));
        y.restrict(0, 0, 38);
        due("30: thirty-nine rules", 39, () -> y.compose(0, 1, 2));
    }

    /** All but the last term have forty takers, the last one has none: no time may be lost in it. */
    private static void composeDeadEnds() {
        TransducerBench x = Check.bench("0>0:1/1,1,1,1,1,2;0>1:1/1,1,1,1,1,3");
        for (int i = 0; i < 39; i++) {
            x.addRule(1, 0, 0, 1, 1);
        }
        x.addRule(1, 1, 1, 3, 3);
        due("30: no sequence is enabled", 0, () -> x.compose(0, 1, 2));
        x.removeRule(1, 0);
        x.addRule(1, 0, 0, 3, 3);
        due("30: too many sequences are enabled", UNSUPPORTED, () -> x.compose(0, 1, 2));
    }

    private static void invert() {
        TransducerBench x = Check.bench("!1;!3;0>1:0-9,20,97-99/x+2;1>0:0-9/x-5;2>2:99/x+1;0>0:64-70/x-60");
        due("31: a rule that is never enabled is left out", 3, () -> x.invert(0, 1));
        due("31: looks", "1010;0>1:2-11,22-22,99-99/998;1>0:0-4/1005;0>0:4-10/1060", () -> Check.show(x, 1));
        due("31: into itself", 3, () -> x.invert(1, 1));
        due("31: looks then", "1010;0>1:0-9,20-20,97-97/1002;1>0:5-9/995;0>0:64-70/940",
                () -> Check.show(x, 1));
        x.addRule(1, 5, 5, 1, 1);
        due("31: no term", STATE, () -> x.invert(1, 2));
        x.addTerm(1, 3, true, 99);
        due("31: one offset", 3, () -> x.invert(1, 2));
        x.addTerm(1, 3, true, 0);
        due("31: two terms of a rule that is never enabled", STATE, () -> x.invert(1, 2));
        TransducerBench y = Check.bench("0>0:1/5");
        due("31: a constant", STATE, () -> y.invert(0, 1));
        due("31: the slot comes first", ARGUMENT, () -> y.invert(0, 4));
        due("31: slot", ARGUMENT, () -> y.invert(-1, 0));
        due("31: an empty slot", 0, () -> y.invert(3, 0));
        due("31: empties the other", "0", () -> Check.show(y, 0));
        TransducerBench far = Check.bench(
                "0>0:0-99/x+99;0>0:0-99/x-99;0>0:0-99/x+36;0>0:0-99/x-64;0>0:0-99/x+64;0>0:3-80/x+63");
        due("31: far offsets", 6, () -> far.invert(0, 0));
        due("31: far looks", "0;0>0:99-99/901;0>0:0-0/1099;0>0:36-99/964;0>0:0-35/1064;"
                + "0>0:64-99/936;0>0:66-99/937", () -> Check.show(far, 0));
    }

    private static void restrict() {
        TransducerBench x = Check.bench("!1;0>1:0-9/x;1>0:20/5;2>2:5-70/x+99;0>0:64-70/");
        due("32: all stay", 0, () -> x.restrict(0, 0, 99));
        due("32: none goes", 0, () -> x.restrict(0, 5, 65));
        due("32: looks", "10;0>1:5-9/1000;1>0:20-20/5;2>2:5-65/1099;0>0:64-65/", () -> Check.show(x, 0));
        due("32: two go", 2, () -> x.restrict(0, 10, 63));
        due("32: the others keep their order", "10;1>0:20-20/5;2>2:10-63/1099", () -> Check.show(x, 0));
        due("32: one symbol", 1, () -> x.restrict(0, 63, 63));
        due("32: a rule that is never enabled stays", "10;2>2:63-63/1099", () -> Check.show(x, 0));
        due("32: the last one", 1, () -> x.restrict(0, 64, 99));
        due("32: the finals stay", "10", () -> Check.show(x, 0));
        due("32: slot", ARGUMENT, () -> x.restrict(4, 0, 9));
        due("32: low", ARGUMENT, () -> x.restrict(0, -1, 9));
        due("32: high", ARGUMENT, () -> x.restrict(0, 0, 100));
        due("32: high below low", ARGUMENT, () -> x.restrict(0, 9, 8));
    }

    private static void trim() {
        TransducerBench x = Check.bench("!2;!7;0>1:1/;1>2:2/x;2>3:3/;4>2:4/;1>1:99/x+1;2>0:5/;7>7:1/;1>7:0/x-1");
        due("33: five of eight are no use", 5, () -> x.trim(0));
        due("33: looks", "10000100;0>1:1-1/;1>2:2-2/1000;2>0:5-5/", () -> Check.show(x, 0));
        due("33: nothing more", 0, () -> x.trim(0));
        x.setFinal(0, 2, false);
        due("33: without a final state that is reached", 3, () -> x.trim(0));
        due("33: an empty slot", 0, () -> x.trim(1));
        due("33: slot", ARGUMENT, () -> x.trim(4));
        due("33: slot -1", ARGUMENT, () -> x.trim(-1));
        TransducerBench y = Check.bench("!1;0>1:98-99/x+1;1>0:5/");
        due("33: a guard is not trimmed", 0, () -> y.trim(0));
        due("33: as it was", "10;0>1:98-99/1001;1>0:5-5/", () -> Check.show(y, 0));
    }

    private static void copy() {
        TransducerBench x = Check.bench("!1;0>1:0-9/x,5;1>0:20/", "!3;3>3:3/;3>3:3/;3>3:3/");
        due("34: two rules", 2, () -> x.copy(0, 1));
        due("34: looks", "10;0>1:0-9/1000,5;1>0:20-20/", () -> Check.show(x, 1));
        x.addTerm(1, 1, false, 7);
        x.setFinal(1, 0, true);
        due("34: the copy is its own", "10;0>1:0-9/1000,5;1>0:20-20/", () -> Check.show(x, 0));
        due("34: and changes", "11;0>1:0-9/1000,5;1>0:20-20/7", () -> Check.show(x, 1));
        due("34: onto itself", 2, () -> x.copy(1, 1));
        due("34: changes nothing", "11;0>1:0-9/1000,5;1>0:20-20/7", () -> Check.show(x, 1));
        due("34: an empty one", 0, () -> x.copy(3, 1));
        due("34: empties", "0", () -> Check.show(x, 1));
        due("34: slot", ARGUMENT, () -> x.copy(4, 0));
        due("34: target", ARGUMENT, () -> x.copy(0, -1));
    }
}
