import java.lang.reflect.Constructor;
import java.lang.reflect.Field;
import java.lang.reflect.Method;
import java.lang.reflect.Modifier;
import java.util.ArrayList;
import java.util.Arrays;
import java.util.List;
import java.util.TreeSet;

/** The public face is the document's, and no private method bears a public one's name. */
public final class FaceTest {
    private static final String FACE = "int feed(int,int,int,int,int);int ledger(int);int fault();int where();"
        + "int trade(int,int);int booked(int);int held(int);long cost(int);int lots(int);int lot(int,int,int);"
        + "long lotCost(int,int);long mean(int,boolean);long worth(int,int);int chain();long gain(int);long deferred(int);"
        + "int pieces(int);int piece(int,int,int);long pieceSum(int,int,int);long gains();long deferrals();long lost();"
        + "int open();long byRule(int,int);int leastRule(int);long byWindow(int);long until(int);int heldAt(int,int);"
        + "int later(int);int fits();int fitAt(int);int could();int surely();int ask();int askLeaves();int judge();"
        + "long drawnGains(int,int);int drawnHeld(int,int,int);int buy(int,int,int,int);int sell(int,int,int,int,int);"
        + "int split(int,int,int,int);int strike(int);int rule(int,int);boolean undo();int image();boolean back(int);"
        + "int led(int);int size(int);int trouble()";

    public static void main(String[] args) {
        List<String> wrong = new ArrayList<>();
        TreeSet<String> names = new TreeSet<>();
        TreeSet<String> found = new TreeSet<>();
        for (Method method : LotLedger.class.getDeclaredMethods()) {
            if (Modifier.isPublic(method.getModifiers())) {
                names.add(method.getName());
                String types = String.join(",", Arrays.stream(method.getParameterTypes()).map(Class::getName).toList());
                found.add(method.getReturnType().getName() + " " + method.getName() + "(" + types + ")");
            }
        }
        if (!found.equals(new TreeSet<>(List.of(FACE.split(";"))))) wrong.add("the face is " + found);
        if (!Modifier.isFinal(LotLedger.class.getModifiers())) wrong.add("the class isn't final");
        lookAtMembers(names, wrong);
        for (Class<?> inside : LotLedger.class.getDeclaredClasses()) {
            if (!Modifier.isStatic(inside.getModifiers())) wrong.add(inside + " isn't static");
            for (Method method : inside.getDeclaredMethods()) {
                if (names.contains(method.getName())) wrong.add(method + " bears a public name");
            }
        }
        wrong.forEach(System.out::println);
        System.out.println(wrong.isEmpty() ? "the face is the document's" : wrong.size() + " faults of the face");
        System.exit(wrong.isEmpty() ? 0 : 1);
    }

    private static void lookAtMembers(TreeSet<String> names, List<String> wrong) {
        for (Method method : LotLedger.class.getDeclaredMethods()) {
            if (!Modifier.isPublic(method.getModifiers())) {
                if (!Modifier.isPrivate(method.getModifiers())) wrong.add(method + " isn't private");
                if (names.contains(method.getName())) wrong.add(method + " bears a public name");
            }
        }
        for (Field field : LotLedger.class.getDeclaredFields()) {
            boolean none = field.getName().equals("NONE");
            if (Modifier.isPublic(field.getModifiers()) != none || !none && !Modifier.isPrivate(field.getModifiers())) wrong.add(field + "");
        }
        Constructor<?>[] made = LotLedger.class.getDeclaredConstructors();
        if (made.length != 1 || made[0].getParameterCount() != 0 || !Modifier.isPublic(made[0].getModifiers())) wrong.add("constructors");
    }
}
