import java.lang.reflect.Constructor;
import java.lang.reflect.Field;
import java.lang.reflect.Method;
import java.lang.reflect.Modifier;
import java.util.ArrayList;
import java.util.Arrays;
import java.util.HashSet;
import java.util.List;
import java.util.Set;
import java.util.TreeSet;

/** The public face of the document: its methods and what they declare to throw, and nothing else. */
public final class FaceTest {
    private static final Check CHECK = new Check();
    private static final String[] FACE = {
        "int feed(int a, int b, int c, int d, int e) throws IllegalStateException",
        "int trim(int n) throws IllegalArgumentException",
        "int teach()",
        "int errorAt()",
        "int strays()",
        "int houses()",
        "int coins()",
        "int day()",
        "int ordersCarriedOut()",
        "int here()",
        "int adopted()",
        "int gone()",
        "int room()",
        "int kindOf(int stray) throws IndexOutOfBoundsException",
        "int dayOf(int stray) throws IndexOutOfBoundsException",
        "boolean isHere(int stray) throws IndexOutOfBoundsException",
        "boolean isAdopted(int stray) throws IndexOutOfBoundsException",
        "boolean isGone(int stray) throws IndexOutOfBoundsException",
        "int hungerOf(int stray) throws IndexOutOfBoundsException, IllegalStateException",
        "int wildnessOf(int stray) throws IndexOutOfBoundsException, IllegalStateException",
        "boolean isHoused(int stray) throws IndexOutOfBoundsException",
        "int houseOf(int stray) throws IndexOutOfBoundsException, IllegalStateException",
        "boolean isPaired(int stray) throws IndexOutOfBoundsException",
        "boolean isReady(int stray) throws IndexOutOfBoundsException",
        "int hungriest()",
        "int straysIn(int house) throws IndexOutOfBoundsException",
        "int feedStray(int stray) throws IndexOutOfBoundsException, IllegalStateException",
        "int train(int stray) throws IndexOutOfBoundsException, IllegalStateException",
        "int house(int stray) throws IndexOutOfBoundsException, IllegalStateException",
        "int free(int stray) throws IndexOutOfBoundsException, IllegalStateException",
        "int offer(int stray) throws IndexOutOfBoundsException, IllegalStateException",
        "int donate(int coins) throws IllegalArgumentException",
        "int passDays(int days) throws IllegalArgumentException",
        "int adoptedAfter(int days) throws IllegalArgumentException",
        "int goneAfter(int days) throws IllegalArgumentException",
        "int daysUntilGone(int stray) throws IndexOutOfBoundsException",
        "int daysUntilAdopted(int stray) throws IndexOutOfBoundsException",
        "int bestToFeed()",
        "double meanHunger()",
        "long digest()",
    };

    public static void main(String[] args) {
        isPublicAndFinal();
        hasOneConstructor();
        hasTheMethods();
        hasNoOtherNames();
        hidesAllElse();
        CHECK.end();
    }

    private static void isPublicAndFinal() {
        Class<?> face = MarkShelter.class;
        CHECK.equal("public", true, Modifier.isPublic(face.getModifiers()));
        CHECK.equal("final", true, Modifier.isFinal(face.getModifiers()));
        CHECK.equal("without a package", "MarkShelter", face.getName());
        CHECK.equal("below Object alone", Object.class, face.getSuperclass());
        CHECK.equal("no interface", 0, face.getInterfaces().length);
    }

    private static void hasOneConstructor() {
        Constructor<?>[] all = MarkShelter.class.getDeclaredConstructors();
        CHECK.equal("1: constructors", 1, all.length);
        CHECK.equal("1: public", true, Modifier.isPublic(all[0].getModifiers()));
        CHECK.equal("1: parameters", 0, all[0].getParameterCount());
        CHECK.equal("1: exceptions", 0, all[0].getExceptionTypes().length);
    }

    private static void hasTheMethods() {
        Set<String> due = new TreeSet<>();
        for (String line : FACE) {
            due.add(line.replaceAll("int [a-z]+([,)])", "int$1"));
        }
        Set<String> found = new TreeSet<>();
        for (Method method : MarkShelter.class.getDeclaredMethods()) {
            if (!Modifier.isPrivate(method.getModifiers())) {
                found.add(described(method));
                CHECK.equal(method + " is no static one", false, Modifier.isStatic(method.getModifiers()));
                CHECK.equal(method + " is public", true, Modifier.isPublic(method.getModifiers()));
            }
        }
        CHECK.equal("the methods", due, found);
    }

    private static String described(Method method) {
        String text = method.getReturnType().getName() + " " + method.getName() + "("
            + names(method.getParameterTypes()) + ")";
        Class<?>[] thrown = method.getExceptionTypes();
        return thrown.length == 0 ? text : text + " throws " + names(thrown);
    }

    private static String names(Class<?>[] types) {
        List<String> names = new ArrayList<>();
        for (Class<?> type : types) {
            names.add(type.getSimpleName());
        }
        return String.join(", ", names);
    }

    private static void hasNoOtherNames() {
        Set<String> face = new HashSet<>();
        for (String line : FACE) {
            face.add(line.substring(line.indexOf(' ') + 1, line.indexOf('(')));
        }
        CHECK.equal("as many names as methods", FACE.length, face.size());
        for (Method method : MarkShelter.class.getDeclaredMethods()) {
            if (Modifier.isPrivate(method.getModifiers())) {
                CHECK.equal(method + " has a name of its own", false, face.contains(method.getName()));
            }
        }
        for (Class<?> inside : MarkShelter.class.getDeclaredClasses()) {
            for (Method method : inside.getDeclaredMethods()) {
                CHECK.equal(method + " has a name of its own", false, face.contains(method.getName()));
            }
        }
    }

    private static void hidesAllElse() {
        for (Field field : MarkShelter.class.getDeclaredFields()) {
            CHECK.equal(field + " is private", true, Modifier.isPrivate(field.getModifiers()));
            boolean constant = !Modifier.isStatic(field.getModifiers()) || Modifier.isFinal(field.getModifiers());
            CHECK.equal(field + " is final, if it is static", true, constant);
        }
        for (Class<?> inside : MarkShelter.class.getDeclaredClasses()) {
            int modifiers = inside.getModifiers();
            boolean hidden = !Modifier.isPublic(modifiers) && !Modifier.isProtected(modifiers);
            CHECK.equal(inside + " is hidden and static", true, hidden && Modifier.isStatic(modifiers));
        }
        CHECK.equal("no public field", "[]", Arrays.toString(MarkShelter.class.getFields()));
    }
}
