import java.io.IOException;
import java.lang.reflect.Constructor;
import java.lang.reflect.Field;
import java.lang.reflect.Method;
import java.lang.reflect.Modifier;
import java.nio.file.Files;
import java.nio.file.Path;
import java.util.ArrayList;
import java.util.List;
import java.util.Set;
import java.util.TreeSet;

/** That the class has the members of the document's public face, and no other that can be seen. */
public final class FaceTest {
    private static final Path DOCUMENT = Path.of("../shared/DOC.md");

    public static void main(String[] args) throws IOException, IllegalAccessException {
        List<String> face = faceOfTheDocument();
        members(face);
        declaration(face);
        classesInside();
        namesOfPrivateMethods();
        constants();
        Due.finish();
    }

    /** The lines of the document's public face, without the names of parameters. */
    private static List<String> faceOfTheDocument() throws IOException {
        List<String> face = new ArrayList<>();
        boolean inSection = false;
        boolean inCode = false;
        for (String line : Files.readAllLines(DOCUMENT)) {
            if (line.startsWith("## ")) {
                inSection = line.equals("## The public face");
            } else if (inSection && line.startsWith("```")) {
                inCode = !inCode;
            } else if (inSection && inCode && !line.isBlank() && !line.equals("}")) {
                face.add(withoutNames(line.strip()));
            }
        }
        return face;
    }

    private static String withoutNames(String line) {
        return line.replaceAll("(\\w+) \\w+(?=[,)])", "$1");
    }

    private static void members(List<String> face) throws IllegalAccessException {
        Set<String> due = new TreeSet<>(face.subList(1, face.size()));
        Set<String> got = visibleMembers();
        Due.same("how many members the document names", due.size(), face.size() - 1);
        for (String member : due) {
            Due.same("the document's " + member, got.contains(member) ? "is there" : "is not there", "is there");
        }
        for (String member : got) {
            Due.same("the class's " + member, due.contains(member) ? "in the document" : "not in the document",
                    "in the document");
        }
    }

    private static Set<String> visibleMembers() throws IllegalAccessException {
        Set<String> members = new TreeSet<>();
        for (Field field : ChessLedger.class.getDeclaredFields()) {
            if (!Modifier.isPrivate(field.getModifiers())) {
                String value = Modifier.isStatic(field.getModifiers()) ? " = " + field.get(null) : "";
                members.add(modifiers(field.getModifiers()) + field.getType().getTypeName() + " " + field.getName()
                        + value + ";");
            }
        }
        for (Constructor<?> made : ChessLedger.class.getDeclaredConstructors()) {
            if (!Modifier.isPrivate(made.getModifiers())) {
                members.add(modifiers(made.getModifiers()) + "ChessLedger" + list(made.getParameterTypes())
                        + thrown(made.getExceptionTypes()) + ";");
            }
        }
        for (Method method : ChessLedger.class.getDeclaredMethods()) {
            if (!Modifier.isPrivate(method.getModifiers())) {
                members.add(modifiers(method.getModifiers()) + method.getReturnType().getTypeName() + " "
                        + method.getName() + list(method.getParameterTypes()) + thrown(method.getExceptionTypes())
                        + ";");
            }
        }
        return members;
    }

    private static String modifiers(int modifiers) {
        String words = Modifier.toString(modifiers);
        return words.isEmpty() ? "" : words + " ";
    }

    private static String list(Class<?>[] types) {
        List<String> names = new ArrayList<>();
        for (Class<?> type : types) {
            names.add(type.getTypeName());
        }
        return "(" + String.join(", ", names) + ")";
    }

    private static String thrown(Class<?>[] types) {
        return types.length == 0 ? "" : " throws " + list(types);
    }

    private static void declaration(List<String> face) {
        Class<?> type = ChessLedger.class;
        Due.same("the class", modifiers(type.getModifiers()) + "class " + type.getName() + " {", face.get(0));
        Due.same("the class above it", type.getSuperclass().getName(), "java.lang.Object");
        Due.same("how many interfaces it has", type.getInterfaces().length, 0);
        Due.same("how many type parameters it has", type.getTypeParameters().length, 0);
    }

    private static void classesInside() {
        for (Class<?> inside : ChessLedger.class.getDeclaredClasses()) {
            int modifiers = inside.getModifiers();
            boolean open = Modifier.isPublic(modifiers) || Modifier.isProtected(modifiers);
            Due.same("whether " + inside.getName() + " is static and not public or protected",
                    Modifier.isStatic(modifiers) && !open ? 1 : 0, 1);
        }
    }

    private static void namesOfPrivateMethods() {
        Set<String> names = new TreeSet<>();
        for (Method method : ChessLedger.class.getMethods()) {
            names.add(method.getName());
        }
        for (Method method : ChessLedger.class.getDeclaredMethods()) {
            if (Modifier.isPrivate(method.getModifiers())) {
                Due.same("whether a public method bears the name of the private " + method.getName(),
                        names.contains(method.getName()) ? 1 : 0, 0);
            }
        }
    }

    private static void constants() {
        Due.sentence("The constants: `NONE = -1`: There is none.");
        // Compiled in here, so it must be a constant to the compiler too.
        switch (-1) {
            case ChessLedger.NONE:
                Due.same("NONE", ChessLedger.NONE, -1);
                break;
            default:
                Due.same("NONE", 0, -1);
        }
    }
}
