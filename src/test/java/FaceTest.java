import java.lang.reflect.Field;
import java.lang.reflect.Method;
import java.lang.reflect.Modifier;
import java.util.Set;
import java.util.TreeSet;

/** The face of the class: what the document lists, and nothing else that others could see. */
public final class FaceTest {
    private static final String[] FACE = {
        "boolean setFinal(int,int,boolean) throws IllegalArgumentException",
        "int addRule(int,int,int,int,int) throws IllegalArgumentException,IllegalStateException",
        "int addRange(int,int,int,int) throws IllegalArgumentException,IndexOutOfBoundsException",
        "int addTerm(int,int,boolean,int) throws IllegalArgumentException,IndexOutOfBoundsException,IllegalStateException",
        "int removeRule(int,int) throws IllegalArgumentException,IndexOutOfBoundsException",
        "int rules(int) throws IllegalArgumentException",
        "int finals(int) throws IllegalArgumentException",
        "int rule(int,int,int) throws IllegalArgumentException,IndexOutOfBoundsException",
        "int range(int,int,int,boolean) throws IllegalArgumentException,IndexOutOfBoundsException",
        "int term(int,int,int) throws IllegalArgumentException,IndexOutOfBoundsException",
        "int valueOf(int,int,int,int) throws IllegalArgumentException,IndexOutOfBoundsException",
        "int feed(char) throws IllegalStateException",
        "int parse(int) throws IllegalArgumentException,IllegalStateException",
        "int push(int) throws IllegalArgumentException,IllegalStateException",
        "int clearWord()",
        "int symbol(int) throws IndexOutOfBoundsException",
        "long runs(int) throws IllegalArgumentException",
        "int transduce(int,boolean) throws IllegalArgumentException,NoSuchElementException",
        "int result(int) throws IndexOutOfBoundsException",
        "int useResult() throws IllegalStateException",
        "long domainCount(int,int) throws IllegalArgumentException",
        "double domainShare(int,int) throws IllegalArgumentException",
        "int shortestInput(int) throws IllegalArgumentException,NoSuchElementException",
        "int outputSymbols(int) throws IllegalArgumentException",
        "boolean isDeterministic(int) throws IllegalArgumentException",
        "boolean isFunctional(int) throws IllegalArgumentException",
        "boolean isEquivalent(int,int) throws IllegalArgumentException,IllegalStateException",
        "boolean isWithin(int,int) throws IllegalArgumentException",
        "int compose(int,int,int) throws IllegalArgumentException,UnsupportedOperationException",
        "int invert(int,int) throws IllegalArgumentException,IllegalStateException",
        "int restrict(int,int,int) throws IllegalArgumentException",
        "int trim(int) throws IllegalArgumentException",
        "int copy(int,int) throws IllegalArgumentException",
        "int undo() throws IllegalStateException"
    };

    public static void main(String[] args) {
        Check check = new Check();
        check.due("the class is final", true,
                () -> Modifier.isFinal(TransducerBench.class.getModifiers()));
        check.due("the public methods", new TreeSet<>(Set.of(FACE)), () -> methods());
        check.due("names of private methods that are public ones", new TreeSet<>(), () -> shared());
        check.due("visible fields and static state", new TreeSet<>(), () -> fields());
        check.due("public constructors", 1, () -> TransducerBench.class.getConstructors().length);
        check.due("constructors", 1, () -> TransducerBench.class.getDeclaredConstructors().length);
        check.end();
    }

    private static Set<String> methods() {
        Set<String> found = new TreeSet<>();
        for (Method method : TransducerBench.class.getDeclaredMethods()) {
            if (!Modifier.isPrivate(method.getModifiers())) {
                StringBuilder text = new StringBuilder();
                text.append(method.getReturnType()).append(' ').append(method.getName()).append('(');
                for (int i = 0; i < method.getParameterCount(); i++) {
                    text.append(i > 0 ? "," : "").append(method.getParameterTypes()[i]);
                }
                text.append(')');
                for (int i = 0; i < method.getExceptionTypes().length; i++) {
                    text.append(i > 0 ? "," : " throws ");
                    text.append(method.getExceptionTypes()[i].getSimpleName());
                }
                found.add(text.toString());
            }
        }
        return found;
    }

    private static Set<String> shared() {
        Set<String> names = new TreeSet<>();
        for (Method method : TransducerBench.class.getMethods()) {
            names.add(method.getName());
        }
        Set<String> found = new TreeSet<>();
        for (Method method : TransducerBench.class.getDeclaredMethods()) {
            if (Modifier.isPrivate(method.getModifiers()) && names.contains(method.getName())) {
                found.add(method.getName());
            }
        }
        for (Class<?> inside : TransducerBench.class.getDeclaredClasses()) {
            for (Method method : inside.getDeclaredMethods()) {
                if (names.contains(method.getName())) {
                    found.add(inside.getSimpleName() + "." + method.getName());
                }
            }
        }
        return found;
    }

    private static Set<String> fields() {
        Set<String> found = new TreeSet<>();
        for (Field field : TransducerBench.class.getDeclaredFields()) {
            int modifiers = field.getModifiers();
            boolean isState = Modifier.isStatic(modifiers) && !Modifier.isFinal(modifiers);
            if (!Modifier.isPrivate(modifiers) || isState) {
                found.add(field.getName());
            }
        }
        return found;
    }
}
