import java.lang.reflect.Constructor;
import java.lang.reflect.Field;
import java.lang.reflect.Method;
import java.lang.reflect.Modifier;
import java.util.Set;
import java.util.TreeSet;

/** The public face of SharedRides is the document's, with no other member that isn't private. */
public final class FaceTest {
    private static final String[] FACE = {
        "public SharedRides()",
        "public static final int UNKNOWN = -1001", "public static final int BAD_VALUE = -1002",
        "public static final int ASSIGNED = -1003", "public static final int NOT_ASSIGNED = -1004",
        "public static final int NOT_FEASIBLE = -1005", "public static final int FULL = -1006",
        "public static final int NONE = -1007",
        "public int addVehicle(int, int, int, int, int)", "public int addRequest(int, int, int, int, int, int)",
        "public int setWindow(int, boolean, int, int)", "public int setLimit(int, int)",
        "public int setLoad(int, int)", "public int setService(int)", "public int count(int)",
        "public int request(int, int)", "public int vehicle(int, int)", "public int stop(int, int, int)",
        "public int rideTime(int, boolean)", "public int depotTime(int, boolean)",
        "public int cost(int, int, int, int)", "public int insert(int, int, int, int)", "public int best(int, int)",
        "public int assignTo(int, int)", "public int assign(int)", "public int remove(int)",
        "public int chainCost(int)", "public int chain(int)", "public int improve()", "public int undo()"};

    public static void main(String[] args) throws IllegalAccessException {
        Set<String> want = new TreeSet<>(Set.of(FACE));
        Set<String> got = new TreeSet<>();
        Set<String> names = new TreeSet<>();
        for (Method m : SharedRides.class.getDeclaredMethods()) {
            if (!Modifier.isPrivate(m.getModifiers())) {
                got.add(text(m.getModifiers()) + m.getReturnType() + " " + m.getName() + list(m.getParameterTypes()));
                names.add(m.getName());
            }
        }
        for (Constructor<?> c : SharedRides.class.getDeclaredConstructors()) {
            got.add(text(c.getModifiers()) + "SharedRides" + list(c.getParameterTypes()));
        }
        for (Field f : SharedRides.class.getDeclaredFields()) {
            if (!Modifier.isPrivate(f.getModifiers())) {
                got.add(text(f.getModifiers()) + f.getType() + " " + f.getName() + " = " + f.get(null));
            }
        }
        boolean right = got.equals(want) && text(SharedRides.class.getModifiers()).equals("public final ");
        for (Method m : SharedRides.class.getDeclaredMethods()) {
            right &= !Modifier.isPrivate(m.getModifiers()) || !names.contains(m.getName());
        }
        if (!right) {
            System.out.println("the face is " + got + ", due is " + want);
            System.exit(1);
        }
    }

    private static String text(int modifiers) {
        return modifiers == 0 ? "" : Modifier.toString(modifiers) + " ";
    }

    private static String list(Class<?>[] types) {
        StringBuilder all = new StringBuilder("(");
        for (Class<?> type : types) all.append(all.length() > 1 ? ", " : "").append(type);
        return all.append(')').toString();
    }
}
