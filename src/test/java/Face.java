import java.lang.reflect.Constructor;
import java.lang.reflect.Field;
import java.lang.reflect.Method;
import java.lang.reflect.Modifier;
import java.util.ArrayList;
import java.util.List;
import java.util.NoSuchElementException;
import java.util.TreeSet;

/** The public face as the document writes it out, and nothing else to be seen from outside. */
public final class Face {
    private static final String[] FACE = {
        "int sign(int)", "boolean end(int)", "int folk()", "int rule()", "int of(int,int) throws", "int weight(int,int) throws",
        "int all(int,int)", "int bear(int,int)", "int sheet(int,int,int,int)", "int ring(int)", "int board(int,int)",
        "int off(int)", "int step(int,int)", "int day()", "int undo()", "int lean(int) throws", "int tips()",
        "int lighter(int,int)", "int between(int,int,int)", "int climbs(int,int)", "int spread(int)", "int floor(int)",
        "int heaviest(int)", "int timber(int,int)", "int task(int,int)", "int forget()", "int crew(int,int)", "int times(int)",
        "int earliest()", "int most(int)", "int goes(int)", "int cross(int,int)", "int start(int)", "int steady(int)",
        "int trim(int)", "int balance(int,int,int) throws", "int even(int,int)", "int makeup(int,int,int)",
        "int split(int,int)", "int pair(int,int) throws", "int weighed(int,int,int)", "int unsay()", "int believed()",
        "int fits(int)", "int liars()", "int print(int,int,int)", "int hour(int,int,int,int)", "int ballast(int,int)",
        "int swap(int,int,int,int) throws", "int order(int)", "boolean keep(int)", "boolean again(int)", "int count(int)",
        "int row(int) throws"
    };

    public static void main(String[] args) {
        List<String> faults = new ArrayList<>();
        TreeSet<String> due = new TreeSet<>(List.of(FACE));
        TreeSet<String> names = new TreeSet<>();
        for (Method method : LighterAtDusk.class.getDeclaredMethods()) {
            if (!Modifier.isPrivate(method.getModifiers()) && !method.isSynthetic()) {
                names.add(method.getName());
                if (!due.remove(told(method))) {
                    faults.add("not of the face: " + told(method));
                }
            }
        }
        for (String missing : due) {
            faults.add("missing: " + missing);
        }
        for (Method method : LighterAtDusk.class.getDeclaredMethods()) {
            if (Modifier.isPrivate(method.getModifiers()) && names.contains(method.getName())) {
                faults.add("private, but of a public one's name: " + method.getName());
            }
        }
        for (Class<?> inside : LighterAtDusk.class.getDeclaredClasses()) {
            for (Method method : inside.getDeclaredMethods()) {
                if (names.contains(method.getName())) {
                    faults.add("inside, but of a public one's name: " + inside.getSimpleName() + "." + method.getName());
                }
            }
        }
        fieldsAndConstructors(faults);
        for (String fault : faults) {
            System.out.println(fault);
        }
        System.out.println(FACE.length + " methods looked for, " + faults.size() + " faults");
        if (!faults.isEmpty()) {
            System.exit(1);
        }
    }

    private static void fieldsAndConstructors(List<String> faults) {
        for (Field field : LighterAtDusk.class.getDeclaredFields()) {
            if (!Modifier.isPrivate(field.getModifiers()) && !field.getName().equals("NONE")) {
                faults.add("not of the face: " + field);
            }
            if (Modifier.isStatic(field.getModifiers()) && !Modifier.isFinal(field.getModifiers())) {
                faults.add("static, but not final: " + field);
            }
        }
        for (Constructor<?> constructor : LighterAtDusk.class.getDeclaredConstructors()) {
            if (!Modifier.isPublic(constructor.getModifiers()) || constructor.getParameterCount() != 0) {
                faults.add("not of the face: " + constructor);
            }
        }
        if (!Modifier.isFinal(LighterAtDusk.class.getModifiers()) || LighterAtDusk.class.getInterfaces().length != 0) {
            faults.add("the class is not as written");
        }
    }

    private static String told(Method method) {
        StringBuilder out = new StringBuilder();
        out.append(method.getReturnType()).append(' ').append(method.getName()).append('(');
        for (Class<?> type : method.getParameterTypes()) {
            out.append(out.charAt(out.length() - 1) == '(' ? "" : ",").append(type);
        }
        out.append(')');
        for (Class<?> type : method.getExceptionTypes()) {
            out.append(type == NoSuchElementException.class ? " throws" : " throws another");
        }
        return out.toString();
    }
}
