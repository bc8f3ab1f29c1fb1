import java.lang.reflect.Constructor;
import java.lang.reflect.Field;
import java.lang.reflect.Method;
import java.lang.reflect.Modifier;
import java.util.ArrayList;
import java.util.Collections;
import java.util.List;
import java.util.NoSuchElementException;

/** The public face is that of the document, and nothing else of the class can be seen from outside. */
final class FaceTest {
    private static final Check CHECK = new Check();
    private static final int CONSTANT = Modifier.PUBLIC | Modifier.STATIC | Modifier.FINAL;
    private static final String[] FACE = {
        "int aim(int,int,int)", "int ask(int,int)", "int back()", "int best(int,int)", "int carrier(int,int)",
        "int count(int)", "int cuts()", "boolean damp(int)", "boolean damps(int)", "int decades(int,long)",
        "boolean end(int)", "int face(int,boolean)", "int fault(int)", "int feed(int,int,int,int,int)",
        "int following()", "int fort(int,int)", "int free()", "int game(int,int,int,int,int,int)", "int grind(int)",
        "int gusts(int,int,int,int,int)", "int hays(int)", "boolean hear(int,int)", "int home(int)", "int hours(int)",
        "int image()", "int known(int)", "int lands(int,int,int,int,int)", "boolean law(int)", "int log(int,int)",
        "int meant(int)", "int net(int)", "int passing(int,int)", "int perform(int)", "int relay(int,int,int)",
        "int rests(int,int,int,int)", "int route(int,int,int,int)", "int rule(int)", "int run(int,int)",
        "int seen(int,int,int,int,int)", "int shoot(int,int,int,int)", "int stack(int,int)", "int step(int,int,int)",
        "int stock(int)", "int sure(int,int,int)", "int surest(int,int)", "int text(int)", "int undo()",
        "boolean wind(int,int)", "int winds(int)",
    };

    public static void main(String[] args) {
        List<String> seen = new ArrayList<>();
        List<String> names = new ArrayList<>();
        for (Method method : CannonPost.class.getDeclaredMethods()) {
            if (Modifier.isPrivate(method.getModifiers())) {
                continue;
            }
            CHECK.holds(method.getName() + " is public", Modifier.isPublic(method.getModifiers()));
            CHECK.fails(method.getName() + " is static", Modifier.isStatic(method.getModifiers()));
            seen.add(told(method));
            boolean declares = List.of(method.getExceptionTypes()).equals(List.of(NoSuchElementException.class));
            CHECK.due(method.getName() + " declares what it throws", declares ? 1 : method.getExceptionTypes().length,
                    method.getName().equals("carrier") ? 1 : 0);
            names.add(method.getName());
        }
        List<String> want = new ArrayList<>(List.of(FACE));
        Collections.sort(seen);
        Collections.sort(want);
        CHECK.due("how many methods", seen.size(), want.size());
        for (String method : want) {
            CHECK.holds("the face has " + method, seen.contains(method));
        }
        membersElsewhere(names);
        CHECK.close();
    }

    private static String told(Method method) {
        StringBuilder all = new StringBuilder(method.getReturnType() + " " + method.getName() + "(");
        String between = "";
        for (Class<?> type : method.getParameterTypes()) {
            all.append(between).append(type);
            between = ",";
        }
        return all.append(")").toString();
    }

    private static void membersElsewhere(List<String> names) {
        for (Field field : CannonPost.class.getDeclaredFields()) {
            boolean constant = field.getName().equals("NONE") || field.getName().equals("HIDDEN");
            CHECK.holds("field " + field.getName(), constant
                    ? field.getModifiers() == CONSTANT && field.getType() == int.class
                    : Modifier.isPrivate(field.getModifiers()));
        }
        for (Constructor<?> maker : CannonPost.class.getDeclaredConstructors()) {
            CHECK.holds("the constructor is public", Modifier.isPublic(maker.getModifiers()));
            CHECK.due("and takes nothing", maker.getParameterCount(), 0);
        }
        CHECK.holds("the class is final", Modifier.isFinal(CannonPost.class.getModifiers()));
        for (Method method : CannonPost.class.getDeclaredMethods()) {
            if (Modifier.isPrivate(method.getModifiers())) {
                CHECK.fails("private " + method.getName(), names.contains(method.getName()));
            }
        }
        for (Class<?> inside : CannonPost.class.getDeclaredClasses()) {
            CHECK.holds(inside + " is static", Modifier.isStatic(inside.getModifiers()));
            CHECK.fails(inside + " is public", Modifier.isPublic(inside.getModifiers()));
            for (Method method : inside.getDeclaredMethods()) {
                CHECK.fails(inside + "'s " + method.getName(), names.contains(method.getName()));
            }
        }
    }
}
