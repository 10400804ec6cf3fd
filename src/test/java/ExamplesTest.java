/** The examples of the document and of README.md, call by call. */
public final class ExamplesTest {
    private static final Check CHECK = new Check();

    private static void due(String what, Object want, Check.Call call) {
        CHECK.due(what, want, call);
    }

    public static void main(String[] args) {
        reading();
        outputsAndDomains();
        composition();
        inversion();
        determinism();
        wrongText();
        readme();
        CHECK.end();
    }

    private static void reading() {
        TransducerBench x = new TransducerBench();
        Check.feed(x, "!0;0>0:1-5/x+3");
        due("reading: parse", 1, () -> x.parse(0));
    }

    private static void outputsAndDomains() {
        TransducerBench x = new TransducerBench();
        due("outputs: addRule", 0, () -> x.addRule(0, 0, 1, 10, 20));
        due("outputs: addTerm", 1, () -> x.addTerm(0, 0, true, 3));
        due("outputs: addTerm 7", 2, () -> x.addTerm(0, 0, false, 7));
        due("outputs: setFinal", false, () -> x.setFinal(0, 1, true));
        due("outputs: push", 1, () -> x.push(12));
        due("outputs: transduce", 2, () -> x.transduce(0, false));
        due("outputs: result 0", 15, () -> x.result(0));
        due("outputs: result 1", 7, () -> x.result(1));
        due("outputs: domainCount 1", 11L, () -> x.domainCount(0, 1));
        due("outputs: domainCount 2", 0L, () -> x.domainCount(0, 2));
        due("outputs: runs", 1L, () -> x.runs(0));
    }

    private static void composition() {
        TransducerBench x = new TransducerBench();
        due("composition: addRule", 0, () -> x.addRule(0, 0, 0, 0, 9));
        due("composition: addTerm", 1, () -> x.addTerm(0, 0, true, 1));
        due("composition: setFinal", false, () -> x.setFinal(0, 0, true));
        due("composition: compose", 1, () -> x.compose(0, 0, 1));
        due("composition: term", 1002, () -> x.term(1, 0, 0));
        due("composition: rule", 9, () -> x.rule(1, 0, 3));
        due("composition: isEquivalent", false, () -> x.isEquivalent(0, 1));
        due("composition: isWithin 1 0", true, () -> x.isWithin(1, 0));
        due("composition: isWithin 0 1", false, () -> x.isWithin(0, 1));
    }

    private static void inversion() {
        TransducerBench x = new TransducerBench();
        due("inversion: addRule", 0, () -> x.addRule(0, 0, 0, 90, 99));
        due("inversion: addTerm", 1, () -> x.addTerm(0, 0, true, 5));
        due("inversion: rule 2", 10, () -> x.rule(0, 0, 2));
        due("inversion: rule 3", 5, () -> x.rule(0, 0, 3));
        due("inversion: invert", 1, () -> x.invert(0, 1));
        due("inversion: term", 995, () -> x.term(1, 0, 0));
        due("inversion: range low", 95, () -> x.range(1, 0, 0, false));
        due("inversion: range high", 99, () -> x.range(1, 0, 0, true));
    }

    private static void determinism() {
        TransducerBench x = new TransducerBench();
        due("determinism: addRule 0", 0, () -> x.addRule(0, 0, 0, 1, 2));
        due("determinism: addRule 1", 1, () -> x.addRule(0, 0, 0, 2, 3));
        due("determinism: setFinal", false, () -> x.setFinal(0, 0, true));
        due("determinism: isDeterministic", false, () -> x.isDeterministic(0));
        due("determinism: isFunctional", true, () -> x.isFunctional(0));
        due("determinism: addTerm", 1, () -> x.addTerm(0, 1, true, 0));
        due("determinism: isFunctional then", false, () -> x.isFunctional(0));
        due("determinism: shortestInput", 0, () -> x.shortestInput(0));
    }

    private static void wrongText() {
        TransducerBench x = new TransducerBench();
        Check.feed(x, "0>1:9");
        due("wrong text: parse", -105, () -> x.parse(0));
        due("wrong text: undo", IllegalStateException.class, () -> x.undo());
    }

    private static void readme() {
        TransducerBench x = new TransducerBench();
        Check.feed(x, "!0;0>0:0-9/x+1");
        due("README: parse", 1, () -> x.parse(0));
        due("README: push", 1, () -> x.push(4));
        due("README: transduce", 1, () -> x.transduce(0, false));
        due("README: result", 5, () -> x.result(0));
        due("README: compose", 1, () -> x.compose(0, 0, 1));
        due("README: term", 1002, () -> x.term(1, 0, 0));
        due("README: isWithin", true, () -> x.isWithin(1, 0));
        due("README: undo", 1, () -> x.undo());
        due("README: rules", 0, () -> x.rules(1));
        due("README: push 100", IllegalArgumentException.class, () -> x.push(100));
    }
}
