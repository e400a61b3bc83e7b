import java.lang.reflect.Constructor;
import java.lang.reflect.Field;
import java.lang.reflect.Method;
import java.lang.reflect.Modifier;
import java.util.Arrays;
import java.util.TreeSet;

/** The public face as the document has it, and nothing else that can be seen from outside. */
public final class FaceTest {
    private static final String[] FACE = {
        "int feed(int,int,int,int,int)", "int house(int) IllegalArgumentException",
        "int law(int) IllegalArgumentException", "int work(int) IllegalArgumentException",
        "int book(int) IllegalArgumentException", "int fault()", "int undo()",
        "int told(int) IllegalArgumentException",
        "int room(int,int) NoSuchElementException IllegalArgumentException",
        "int way(int,int) NoSuchElementException IllegalArgumentException",
        "int scheme(int,int) NoSuchElementException IllegalArgumentException",
        "int cat(int,int) NoSuchElementException IllegalArgumentException",
        "int more(int) NoSuchElementException",
        "int would(int,int,int,int,int,int,int) IllegalArgumentException",
        "int ahead(int,int) IllegalArgumentException", "int far(int,int) NoSuchElementException",
        "int lasts(int) NoSuchElementException", "int slips(int,int) NoSuchElementException",
        "int hunt(int) IllegalArgumentException", "int prey(int) NoSuchElementException",
        "int sums(int,int) NoSuchElementException IllegalArgumentException",
        "int fits(int) IllegalArgumentException", "int look(int) IllegalArgumentException",
        "int uncle(int,int,int) IllegalArgumentException",
        "long boat(int,int,int,int) IllegalArgumentException",
        "int crumbs(int,int,int) NoSuchElementException IllegalArgumentException",
        "int greatest(int) IllegalArgumentException", "int proudest(int) IllegalArgumentException",
        "int safe()", "int doomed()", "int havens(int) IllegalArgumentException", "int hungry()",
        "int crowd(int) IllegalArgumentException",
        "int grown(int,int) NoSuchElementException IllegalArgumentException",
        "int escapes(int) NoSuchElementException", "int weight(int) NoSuchElementException",
        "int season(int,int,int,int) IllegalArgumentException",
        "int span(int,int,int,int,int,int) IllegalArgumentException",
        "int image()", "int restore()", "int status(int)", "int count(int)",
    };

    public static void main(String[] args) {
        Kit.run(FaceTest.class);
    }

    static void methodsOfTheDocumentAndNoOther() {
        TreeSet<String> methods = new TreeSet<>();
        for (Method method : IdeaMousers.class.getDeclaredMethods()) {
            if (!Modifier.isPrivate(method.getModifiers()) && !method.isSynthetic()) {
                Kit.due(method.getName() + " is public", method.getModifiers(), Modifier.PUBLIC);
                methods.add(written(method));
            }
        }
        Kit.dueText("methods", methods.toString(), new TreeSet<>(Arrays.asList(FACE)).toString());
    }

    static void noPrivateMethodBearsTheNameOfAPublicOne() {
        TreeSet<String> names = new TreeSet<>();
        for (String line : FACE) {
            names.add(line.substring(line.indexOf(' ') + 1, line.indexOf('(')));
        }
        Kit.due("names", names.size(), 42);
        lookForPrivateOnes(IdeaMousers.class, names);
        for (Class<?> inside : IdeaMousers.class.getDeclaredClasses()) {
            lookForPrivateOnes(inside, names);
        }
    }

    private static void lookForPrivateOnes(Class<?> where, TreeSet<String> names) {
        for (Method method : where.getDeclaredMethods()) {
            if (!Modifier.isPublic(method.getModifiers())) {
                Kit.due(where.getSimpleName() + "." + method.getName(), names.contains(method.getName()) ? 1 : 0, 0);
            }
        }
    }

    static void oneConstantAndNoOtherField() {
        StringBuilder fields = new StringBuilder();
        for (Field field : IdeaMousers.class.getDeclaredFields()) {
            if (!Modifier.isPrivate(field.getModifiers()) && !field.isSynthetic()) {
                fields.append(Modifier.toString(field.getModifiers())).append(' ').append(field.getName());
            }
        }
        Kit.dueText("fields", fields.toString(), "public static final NONE");
    }

    static void oneConstructor() {
        Constructor<?>[] constructors = IdeaMousers.class.getDeclaredConstructors();
        Kit.due("constructors", constructors.length, 1);
        Kit.due("constructor is public", constructors[0].getModifiers(), Modifier.PUBLIC);
        Kit.due("its parameters", constructors[0].getParameterCount(), 0);
    }

    static void publicAndFinal() {
        Kit.due("class is public and final", IdeaMousers.class.getModifiers(),
            Modifier.PUBLIC | Modifier.FINAL);
    }

    private static String written(Method method) {
        StringBuilder text = new StringBuilder();
        text.append(method.getReturnType().getSimpleName()).append(' ').append(method.getName()).append('(');
        for (int i = 0; i < method.getParameterCount(); i++) {
            text.append(i == 0 ? "" : ",").append(method.getParameterTypes()[i].getSimpleName());
        }
        text.append(')');
        for (Class<?> thrown : method.getExceptionTypes()) {
            text.append(' ').append(thrown.getSimpleName());
        }
        return text.toString();
    }
}
