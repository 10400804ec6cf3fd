import java.lang.reflect.Field;
import java.lang.reflect.Method;
import java.lang.reflect.Modifier;
import java.util.Set;
import java.util.TreeSet;

/** The face of the class: what the document lists, and nothing else that others could see. */
public final class FaceTest {
    private static final String[] FACE = {
        "boolean setFinal(int,int,boolean)", "int addRule(int,int,int,int,int)",
        "int addRange(int,int,int,int)", "int addTerm(int,int,boolean,int)",
        "int removeRule(int,int)", "int rules(int)", "int finals(int)", "int rule(int,int,int)",
        "int range(int,int,int,boolean)", "int term(int,int,int)", "int valueOf(int,int,int,int)",
        "int feed(char)", "int parse(int)", "int push(int)", "int clearWord()", "int symbol(int)",
        "long runs(int)", "int transduce(int,boolean)", "int result(int)", "int useResult()",
        "long domainCount(int,int)", "double domainShare(int,int)", "int shortestInput(int)",
        "int outputSymbols(int)", "boolean isDeterministic(int)", "boolean isFunctional(int)",
        "boolean isEquivalent(int,int)", "boolean isWithin(int,int)", "int compose(int,int,int)",
        "int invert(int,int)", "int restrict(int,int,int)", "int trim(int)", "int copy(int,int)",
        "int undo()"
    };

    public static void main(String[] args) {
        Check check = new Check();
        check.due("the class is final", true,
                () -> Modifier.isFinal(TransducerBench.class.getModifiers()));
        check.due("the public methods", new TreeSet<>(Set.of(FACE)), () -> methods());
        check.due("names of private methods that are public ones", new TreeSet<>(), () -> shared());
        check.due("visible fields and static state", new TreeSet<>(), () -> fields());
        check.due("public constructors", 1, () -> TransducerBench.class.getConstructors().length);
        check.due("constructors", 1, () -> TransducerBench.class.getDeclaredConstructors().length);
        check.end();
    }

    private static Set<String> methods() {
        Set<String> found = new TreeSet<>();
        for (Method method : TransducerBench.class.getDeclaredMethods()) {
            if (!Modifier.isPrivate(method.getModifiers())) {
                StringBuilder text = new StringBuilder();
                text.append(method.getReturnType()).append(' ').append(method.getName()).append('(');
                for (int i = 0; i < method.getParameterCount(); i++) {
                    text.append(i > 0 ? "," : "").append(method.getParameterTypes()[i]);
                }
                found.add(text.append(')').toString());
            }
        }
        return found;
    }

    private static Set<String> shared() {
        Set<String> names = new TreeSet<>();
        for (Method method : TransducerBench.class.getMethods()) {
            names.add(method.getName());
        }
        Set<String> found = new TreeSet<>();
        for (Method method : TransducerBench.class.getDeclaredMethods()) {
            if (Modifier.isPrivate(method.getModifiers()) && names.contains(method.getName())) {
                found.add(method.getName());
            }
        }
        for (Class<?> inside : TransducerBench.class.getDeclaredClasses()) {
            for (Method method : inside.getDeclaredMethods()) {
                if (names.contains(method.getName())) {
                    found.add(inside.getSimpleName() + "." + method.getName());
                }
            }
        }
        return found;
    }

    private static Set<String> fields() {
        Set<String> found = new TreeSet<>();
        for (Field field : TransducerBench.class.getDeclaredFields()) {
            int modifiers = field.getModifiers();
            boolean isState = Modifier.isStatic(modifiers) && !Modifier.isFinal(modifiers);
            if (!Modifier.isPrivate(modifiers) || isState) {
                found.add(field.getName());
            }
        }
        return found;
    }
}
